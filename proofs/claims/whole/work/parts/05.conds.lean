theorem d_Co_size_0 : decode zb_Co_size 0 = .ok (.aload_n 0, 1) := by decide +kernel
theorem d_Co_size_1 : decode zb_Co_size 1 = .ok (.getfield 16, 3) := by decide +kernel
theorem d_Co_size_4 : decode zb_Co_size 4 = .ok (.invokevirtual 28, 3) := by decide +kernel
theorem d_Co_size_7 : decode zb_Co_size 7 = .ok (.ireturn, 1) := by decide +kernel
def k_Co_size (x : zsC) : Option (Int32) := (k_Ta_used 6 2304 x.2.1).bind fun o1 => some o1
set_option maxRecDepth 20000 in
theorem c_Co_size (c : zY) (q : Nat → Nat) (x : zsC) {out : Int32} (h : k_Co_size x = some out) : KM zy_Co_size zb_Co_size 1 (some .int) 1 c [.ref ((q 2))] (zwC c q x) (zwC c q x) (some (.int out)) := zK_of zp_Co rfl (Nat.le_of_ble_eq_true rfl) (zq_Co c q _ _) (fun X hX hR => by
  show Go X (zwC c q x) [(0, .ref ((q 2)))] 0 []
  rw [k_Co_size] at h
  refine g_aload_n (pc := 0) hX d_Co_size_0 rfl 0 rfl ?_
  refine gf_Co_16 (pc := 1) (v := .ref ((q 3))) hX 2 rfl rfl d_Co_size_1 ?_
  obtain ⟨o1, e1, h⟩ := zbind h
  refine g_cvI (pc := 4)  (st := []) (w' := (zwC c q x)) hX zk_Ta_used zs_Ta_used zL_Co_28 (c_Ta_used c (q 3) (q 4) 6 2304 x.2.1 e1) rfl rfl rfl rfl (sp_Co_Ta_3 c q x) (sp_Co_Ta_3 c q x).symm 3 6 rfl rfl rfl d_Co_size_4 ?_
  obtain rfl := Option.some.inj h
  exact g_iret (pc := 7) hX hR d_Co_size_7)
theorem d_Co_has_0 : decode zb_Co_has 0 = .ok (.aload_n 0, 1) := by decide +kernel
theorem d_Co_has_1 : decode zb_Co_has 1 = .ok (.getfield 16, 3) := by decide +kernel
theorem d_Co_has_4 : decode zb_Co_has 4 = .ok (.iload_n 1, 1) := by decide +kernel
theorem d_Co_has_5 : decode zb_Co_has 5 = .ok (.invokevirtual 32, 3) := by decide +kernel
theorem d_Co_has_8 : decode zb_Co_has 8 = .ok (.ireturn, 1) := by decide +kernel
def k_Co_has (x : zsC) (l1 : Int32) : Option (Int32) := (k_Ta_holds 6 2304 x.2.1 l1).bind fun o1 => (if o1 = 0 ∨ o1 = 1 then some o1 else none)
set_option maxRecDepth 20000 in
theorem c_Co_has (c : zY) (q : Nat → Nat) (x : zsC) (l1 : Int32) {out : Int32} (h : k_Co_has x l1 = some out) : KM zy_Co_has zb_Co_has 2 (some .boolean) 1 c [.ref ((q 2)), .int l1] (zwC c q x) (zwC c q x) (some (.int out)) := zK_of zp_Co rfl (Nat.le_of_ble_eq_true rfl) (zq_Co c q _ _) (fun X hX hR => by
  show Go X (zwC c q x) [(0, .ref ((q 2))), (1, .int l1)] 0 []
  rw [k_Co_has] at h
  refine g_aload_n (pc := 0) hX d_Co_has_0 rfl 0 rfl ?_
  refine gf_Co_16 (pc := 1) (v := .ref ((q 3))) hX 2 rfl rfl d_Co_has_1 ?_
  refine g_iload_n (pc := 4) hX d_Co_has_4 rfl 1 rfl ?_
  obtain ⟨o1, e1, h⟩ := zbind h
  refine g_cvI (pc := 5)  (st := []) (w' := (zwC c q x)) hX zk_Ta_holds zs_Ta_holds zL_Co_32 (c_Ta_holds c (q 3) (q 4) 6 2304 x.2.1 l1 e1) rfl rfl rfl rfl (sp_Co_Ta_3 c q x) (sp_Co_Ta_3 c q x).symm 3 6 rfl rfl rfl d_Co_has_5 ?_
  obtain ⟨hb2, h⟩ := zifb h
  obtain rfl := Option.some.inj h
  exact g_zret (pc := 8) hX hR hb2 d_Co_has_8)
theorem d_Co_at_0 : decode zb_Co_at 0 = .ok (.aload_n 0, 1) := by decide +kernel
theorem d_Co_at_1 : decode zb_Co_at 1 = .ok (.getfield 16, 3) := by decide +kernel
theorem d_Co_at_4 : decode zb_Co_at 4 = .ok (.iload_n 1, 1) := by decide +kernel
theorem d_Co_at_5 : decode zb_Co_at 5 = .ok (.iload_n 2, 1) := by decide +kernel
theorem d_Co_at_6 : decode zb_Co_at 6 = .ok (.invokevirtual 36, 3) := by decide +kernel
theorem d_Co_at_9 : decode zb_Co_at 9 = .ok (.ireturn, 1) := by decide +kernel
def k_Co_at (x : zsC) (l1 : Int32) (l2 : Int32) : Option (Int32) := (k_Ta_get 6 2304 x.2.1 l1 l2).bind fun o1 => some o1
set_option maxRecDepth 20000 in
theorem c_Co_at (c : zY) (q : Nat → Nat) (x : zsC) (l1 : Int32) (l2 : Int32) {out : Int32} (h : k_Co_at x l1 l2 = some out) : KM zy_Co_at zb_Co_at 3 (some .int) 1 c [.ref ((q 2)), .int l1, .int l2] (zwC c q x) (zwC c q x) (some (.int out)) := zK_of zp_Co rfl (Nat.le_of_ble_eq_true rfl) (zq_Co c q _ _) (fun X hX hR => by
  show Go X (zwC c q x) [(0, .ref ((q 2))), (1, .int l1), (2, .int l2)] 0 []
  rw [k_Co_at] at h
  refine g_aload_n (pc := 0) hX d_Co_at_0 rfl 0 rfl ?_
  refine gf_Co_16 (pc := 1) (v := .ref ((q 3))) hX 2 rfl rfl d_Co_at_1 ?_
  refine g_iload_n (pc := 4) hX d_Co_at_4 rfl 1 rfl ?_
  refine g_iload_n (pc := 5) hX d_Co_at_5 rfl 2 rfl ?_
  obtain ⟨o1, e1, h⟩ := zbind h
  refine g_cvI (pc := 6)  (st := []) (w' := (zwC c q x)) hX zk_Ta_get zs_Ta_get zL_Co_36 (c_Ta_get c (q 3) (q 4) 6 2304 x.2.1 l1 l2 e1) rfl rfl rfl rfl (sp_Co_Ta_3 c q x) (sp_Co_Ta_3 c q x).symm 3 6 rfl rfl rfl d_Co_at_6 ?_
  obtain rfl := Option.some.inj h
  exact g_iret (pc := 9) hX hR d_Co_at_9)
theorem d_Co_find_0 : decode zb_Co_find 0 = .ok (.iconst 0, 1) := by decide +kernel
theorem d_Co_find_1 : decode zb_Co_find 1 = .ok (.istore 4, 2) := by decide +kernel
theorem d_Co_find_3 : decode zb_Co_find 3 = .ok (.iload 4, 2) := by decide +kernel
theorem d_Co_find_5 : decode zb_Co_find 5 = .ok (.aload_n 0, 1) := by decide +kernel
theorem d_Co_find_6 : decode zb_Co_find 6 = .ok (.getfield 16, 3) := by decide +kernel
theorem d_Co_find_9 : decode zb_Co_find 9 = .ok (.invokevirtual 28, 3) := by decide +kernel
theorem d_Co_find_12 : decode zb_Co_find 12 = .ok (.if_icmp .ge 54, 3) := by decide +kernel
theorem d_Co_find_15 : decode zb_Co_find 15 = .ok (.aload_n 0, 1) := by decide +kernel
theorem d_Co_find_16 : decode zb_Co_find 16 = .ok (.getfield 16, 3) := by decide +kernel
theorem d_Co_find_19 : decode zb_Co_find 19 = .ok (.iload 4, 2) := by decide +kernel
theorem d_Co_find_21 : decode zb_Co_find 21 = .ok (.iconst 0, 1) := by decide +kernel
theorem d_Co_find_22 : decode zb_Co_find 22 = .ok (.invokevirtual 36, 3) := by decide +kernel
theorem d_Co_find_25 : decode zb_Co_find 25 = .ok (.iload_n 1, 1) := by decide +kernel
theorem d_Co_find_26 : decode zb_Co_find 26 = .ok (.if_icmp .ne 34, 3) := by decide +kernel
theorem d_Co_find_29 : decode zb_Co_find 29 = .ok (.aload_n 0, 1) := by decide +kernel
theorem d_Co_find_30 : decode zb_Co_find 30 = .ok (.getfield 16, 3) := by decide +kernel
theorem d_Co_find_33 : decode zb_Co_find 33 = .ok (.iload 4, 2) := by decide +kernel
theorem d_Co_find_35 : decode zb_Co_find 35 = .ok (.iconst 1, 1) := by decide +kernel
theorem d_Co_find_36 : decode zb_Co_find 36 = .ok (.invokevirtual 36, 3) := by decide +kernel
theorem d_Co_find_39 : decode zb_Co_find 39 = .ok (.iload_n 2, 1) := by decide +kernel
theorem d_Co_find_40 : decode zb_Co_find 40 = .ok (.if_icmp .ne 20, 3) := by decide +kernel
theorem d_Co_find_43 : decode zb_Co_find 43 = .ok (.aload_n 0, 1) := by decide +kernel
theorem d_Co_find_44 : decode zb_Co_find 44 = .ok (.getfield 16, 3) := by decide +kernel
theorem d_Co_find_47 : decode zb_Co_find 47 = .ok (.iload 4, 2) := by decide +kernel
theorem d_Co_find_49 : decode zb_Co_find 49 = .ok (.iconst 2, 1) := by decide +kernel
theorem d_Co_find_50 : decode zb_Co_find 50 = .ok (.invokevirtual 36, 3) := by decide +kernel
theorem d_Co_find_53 : decode zb_Co_find 53 = .ok (.iload_n 3, 1) := by decide +kernel
theorem d_Co_find_54 : decode zb_Co_find 54 = .ok (.if_icmp .ne 6, 3) := by decide +kernel
theorem d_Co_find_57 : decode zb_Co_find 57 = .ok (.iload 4, 2) := by decide +kernel
theorem d_Co_find_59 : decode zb_Co_find 59 = .ok (.ireturn, 1) := by decide +kernel
theorem d_Co_find_60 : decode zb_Co_find 60 = .ok (.iinc 4 1, 3) := by decide +kernel
theorem d_Co_find_63 : decode zb_Co_find 63 = .ok (.goto (-60), 3) := by decide +kernel
theorem d_Co_find_66 : decode zb_Co_find 66 = .ok (.iconst (-1), 1) := by decide +kernel
theorem d_Co_find_67 : decode zb_Co_find 67 = .ok (.ireturn, 1) := by decide +kernel
def k_Co_find_3 (x : zsC) (l1 : Int32) (l2 : Int32) (l3 : Int32) : Nat → Int32 → Option (Int32)
  | 0, _ => none
  | fu + 1, l4 => (k_Ta_used 6 2304 x.2.1).bind fun o1 => (if l4 < o1 then (k_Ta_get 6 2304 x.2.1 l4 ((0 : Int32))).bind fun o3 => (if o3 = l1 then (k_Ta_get 6 2304 x.2.1 l4 ((1 : Int32))).bind fun o5 => (if o5 = l2 then (k_Ta_get 6 2304 x.2.1 l4 ((2 : Int32))).bind fun o7 => (if o7 = l3 then some l4 else k_Co_find_3 x l1 l2 l3 fu ((l4 + (1 : Int32)))) else k_Co_find_3 x l1 l2 l3 fu ((l4 + (1 : Int32)))) else k_Co_find_3 x l1 l2 l3 fu ((l4 + (1 : Int32)))) else some ((-1 : Int32)))
set_option maxRecDepth 20000 in
theorem w_Co_find_3 {X : zX} {c : zY} {q : Nat → Nat} {x : zsC} {l1 : Int32} {l2 : Int32} {l3 : Int32} {out : Int32} (hX : Ok X zr_Co zb_Co_find 5 1 c) (hR : Rt X (some .int) (some (.int out)) (zwC c q x)) : ∀ (fu : Nat) (l4 : Int32), k_Co_find_3 x l1 l2 l3 fu l4 = some out → Go X (zwC c q x) [(0, .ref ((q 2))), (1, .int l1), (2, .int l2), (3, .int l3), (4, .int l4)] 3 [] := by
  intro fu
  induction fu with
  | zero => intro l4 h; rw [k_Co_find_3] at h; cases h
  | succ fu ih =>
    intro l4 h
    rw [k_Co_find_3] at h
    refine g_iload (pc := 3) hX d_Co_find_3 4 rfl ?_
    refine g_aload_n (pc := 5) hX d_Co_find_5 rfl 0 rfl ?_
    refine gf_Co_16 (pc := 6) (v := .ref ((q 3))) hX 2 rfl rfl d_Co_find_6 ?_
    obtain ⟨o1, e1, h⟩ := zbind h
    refine g_cvI (pc := 9)  (st := [.int l4]) (w' := (zwC c q x)) hX zk_Ta_used zs_Ta_used zL_Co_28 (c_Ta_used c (q 3) (q 4) 6 2304 x.2.1 e1) rfl rfl rfl rfl (sp_Co_Ta_3 c q x) (sp_Co_Ta_3 c q x).symm 3 6 rfl rfl rfl d_Co_find_9 ?_
    refine g_icmp_ge (pc := 12) (tgt := 66) hX d_Co_find_12 (by decide) h (fun c2 h => ?_) (fun c2 h => ?_)
    · refine g_iconst (pc := 66) hX d_Co_find_66 zc_m1 ?_
      obtain rfl := Option.some.inj h
      exact g_iret (pc := 67) hX hR d_Co_find_67
    · refine g_aload_n (pc := 15) hX d_Co_find_15 rfl 0 rfl ?_
      refine gf_Co_16 (pc := 16) (v := .ref ((q 3))) hX 2 rfl rfl d_Co_find_16 ?_
      refine g_iload (pc := 19) hX d_Co_find_19 4 rfl ?_
      refine g_iconst (pc := 21) hX d_Co_find_21 zc_0 ?_
      obtain ⟨o3, e3, h⟩ := zbind h
      refine g_cvI (pc := 22)  (st := []) (w' := (zwC c q x)) hX zk_Ta_get zs_Ta_get zL_Co_36 (c_Ta_get c (q 3) (q 4) 6 2304 x.2.1 l4 ((0 : Int32)) e3) rfl rfl rfl rfl (sp_Co_Ta_3 c q x) (sp_Co_Ta_3 c q x).symm 3 6 rfl rfl rfl d_Co_find_22 ?_
      refine g_iload_n (pc := 25) hX d_Co_find_25 rfl 1 rfl ?_
      refine g_icmp_ne (pc := 26) (tgt := 60) hX d_Co_find_26 (by decide) h (fun c4 h => ?_) (fun c4 h => ?_)
      · refine g_iinc (pc := 60) (q := 4) (L' := [(4, .int ((l4 + (1 : Int32)))), (0, .ref ((q 2))), (1, .int l1), (2, .int l2), (3, .int l3)]) hX d_Co_find_60 rfl zc_1 rfl rfl ?_
        refine g_goto (pc := 63) (tgt := 3) hX d_Co_find_63 (by decide) ?_
        refine g_ls (L' := [(0, .ref ((q 2))), (1, .int l1), (2, .int l2), (3, .int l3), (4, .int ((l4 + (1 : Int32))))]) [1, 2, 3, 4, 0] rfl ?_
        exact ih _ h
      · refine g_aload_n (pc := 29) hX d_Co_find_29 rfl 0 rfl ?_
        refine gf_Co_16 (pc := 30) (v := .ref ((q 3))) hX 2 rfl rfl d_Co_find_30 ?_
        refine g_iload (pc := 33) hX d_Co_find_33 4 rfl ?_
        refine g_iconst (pc := 35) hX d_Co_find_35 zc_1 ?_
        obtain ⟨o5, e5, h⟩ := zbind h
        refine g_cvI (pc := 36)  (st := []) (w' := (zwC c q x)) hX zk_Ta_get zs_Ta_get zL_Co_36 (c_Ta_get c (q 3) (q 4) 6 2304 x.2.1 l4 ((1 : Int32)) e5) rfl rfl rfl rfl (sp_Co_Ta_3 c q x) (sp_Co_Ta_3 c q x).symm 3 6 rfl rfl rfl d_Co_find_36 ?_
        refine g_iload_n (pc := 39) hX d_Co_find_39 rfl 2 rfl ?_
        refine g_icmp_ne (pc := 40) (tgt := 60) hX d_Co_find_40 (by decide) h (fun c6 h => ?_) (fun c6 h => ?_)
        · refine g_iinc (pc := 60) (q := 4) (L' := [(4, .int ((l4 + (1 : Int32)))), (0, .ref ((q 2))), (1, .int l1), (2, .int l2), (3, .int l3)]) hX d_Co_find_60 rfl zc_1 rfl rfl ?_
          refine g_goto (pc := 63) (tgt := 3) hX d_Co_find_63 (by decide) ?_
          refine g_ls (L' := [(0, .ref ((q 2))), (1, .int l1), (2, .int l2), (3, .int l3), (4, .int ((l4 + (1 : Int32))))]) [1, 2, 3, 4, 0] rfl ?_
          exact ih _ h
        · refine g_aload_n (pc := 43) hX d_Co_find_43 rfl 0 rfl ?_
          refine gf_Co_16 (pc := 44) (v := .ref ((q 3))) hX 2 rfl rfl d_Co_find_44 ?_
          refine g_iload (pc := 47) hX d_Co_find_47 4 rfl ?_
          refine g_iconst (pc := 49) hX d_Co_find_49 zc_2 ?_
          obtain ⟨o7, e7, h⟩ := zbind h
          refine g_cvI (pc := 50)  (st := []) (w' := (zwC c q x)) hX zk_Ta_get zs_Ta_get zL_Co_36 (c_Ta_get c (q 3) (q 4) 6 2304 x.2.1 l4 ((2 : Int32)) e7) rfl rfl rfl rfl (sp_Co_Ta_3 c q x) (sp_Co_Ta_3 c q x).symm 3 6 rfl rfl rfl d_Co_find_50 ?_
          refine g_iload_n (pc := 53) hX d_Co_find_53 rfl 3 rfl ?_
          refine g_icmp_ne (pc := 54) (tgt := 60) hX d_Co_find_54 (by decide) h (fun c8 h => ?_) (fun c8 h => ?_)
          · refine g_iinc (pc := 60) (q := 4) (L' := [(4, .int ((l4 + (1 : Int32)))), (0, .ref ((q 2))), (1, .int l1), (2, .int l2), (3, .int l3)]) hX d_Co_find_60 rfl zc_1 rfl rfl ?_
            refine g_goto (pc := 63) (tgt := 3) hX d_Co_find_63 (by decide) ?_
            refine g_ls (L' := [(0, .ref ((q 2))), (1, .int l1), (2, .int l2), (3, .int l3), (4, .int ((l4 + (1 : Int32))))]) [1, 2, 3, 4, 0] rfl ?_
            exact ih _ h
          · refine g_iload (pc := 57) hX d_Co_find_57 4 rfl ?_
            obtain rfl := Option.some.inj h
            exact g_iret (pc := 59) hX hR d_Co_find_59
def k_Co_find (x : zsC) (l1 : Int32) (l2 : Int32) (l3 : Int32) : Option (Int32) := k_Co_find_3 x l1 l2 l3 zFu ((0 : Int32))
set_option maxRecDepth 20000 in
theorem c_Co_find (c : zY) (q : Nat → Nat) (x : zsC) (l1 : Int32) (l2 : Int32) (l3 : Int32) {out : Int32} (h : k_Co_find x l1 l2 l3 = some out) : KM zy_Co_find zb_Co_find 5 (some .int) 1 c [.ref ((q 2)), .int l1, .int l2, .int l3] (zwC c q x) (zwC c q x) (some (.int out)) := zK_of zp_Co rfl (Nat.le_of_ble_eq_true rfl) (zq_Co c q _ _) (fun X hX hR => by
  show Go X (zwC c q x) [(0, .ref ((q 2))), (1, .int l1), (2, .int l2), (3, .int l3)] 0 []
  rw [k_Co_find] at h
  refine g_iconst (pc := 0) hX d_Co_find_0 zc_0 ?_
  refine g_istore (pc := 1) (L' := [(4, .int ((0 : Int32))), (0, .ref ((q 2))), (1, .int l1), (2, .int l2), (3, .int l3)]) hX d_Co_find_1 rfl rfl ?_
  refine g_ls (L' := [(0, .ref ((q 2))), (1, .int l1), (2, .int l2), (3, .int l3), (4, .int ((0 : Int32)))]) [1, 2, 3, 4, 0] rfl ?_
  exact w_Co_find_3 hX hR _ _ h)
theorem d_Co_make_0 : decode zb_Co_make 0 = .ok (.aload_n 0, 1) := by decide +kernel
theorem d_Co_make_1 : decode zb_Co_make 1 = .ok (.iload_n 1, 1) := by decide +kernel
theorem d_Co_make_2 : decode zb_Co_make 2 = .ok (.iload_n 2, 1) := by decide +kernel
theorem d_Co_make_3 : decode zb_Co_make 3 = .ok (.iload_n 3, 1) := by decide +kernel
theorem d_Co_make_4 : decode zb_Co_make 4 = .ok (.invokevirtual 40, 3) := by decide +kernel
theorem d_Co_make_7 : decode zb_Co_make 7 = .ok (.istore 7, 2) := by decide +kernel
theorem d_Co_make_9 : decode zb_Co_make 9 = .ok (.iload 7, 2) := by decide +kernel
theorem d_Co_make_11 : decode zb_Co_make 11 = .ok (.ifCond .ge 45, 3) := by decide +kernel
theorem d_Co_make_14 : decode zb_Co_make 14 = .ok (.aload_n 0, 1) := by decide +kernel
theorem d_Co_make_15 : decode zb_Co_make 15 = .ok (.getfield 16, 3) := by decide +kernel
theorem d_Co_make_18 : decode zb_Co_make 18 = .ok (.invokevirtual 44, 3) := by decide +kernel
theorem d_Co_make_21 : decode zb_Co_make 21 = .ok (.istore 7, 2) := by decide +kernel
theorem d_Co_make_23 : decode zb_Co_make 23 = .ok (.aload_n 0, 1) := by decide +kernel
theorem d_Co_make_24 : decode zb_Co_make 24 = .ok (.getfield 16, 3) := by decide +kernel
theorem d_Co_make_27 : decode zb_Co_make 27 = .ok (.iload 7, 2) := by decide +kernel
theorem d_Co_make_29 : decode zb_Co_make 29 = .ok (.iconst 0, 1) := by decide +kernel
theorem d_Co_make_30 : decode zb_Co_make 30 = .ok (.iload_n 1, 1) := by decide +kernel
theorem d_Co_make_31 : decode zb_Co_make 31 = .ok (.invokevirtual 47, 3) := by decide +kernel
theorem d_Co_make_34 : decode zb_Co_make 34 = .ok (.aload_n 0, 1) := by decide +kernel
theorem d_Co_make_35 : decode zb_Co_make 35 = .ok (.getfield 16, 3) := by decide +kernel
theorem d_Co_make_38 : decode zb_Co_make 38 = .ok (.iload 7, 2) := by decide +kernel
theorem d_Co_make_40 : decode zb_Co_make 40 = .ok (.iconst 1, 1) := by decide +kernel
theorem d_Co_make_41 : decode zb_Co_make 41 = .ok (.iload_n 2, 1) := by decide +kernel
theorem d_Co_make_42 : decode zb_Co_make 42 = .ok (.invokevirtual 47, 3) := by decide +kernel
theorem d_Co_make_45 : decode zb_Co_make 45 = .ok (.aload_n 0, 1) := by decide +kernel
theorem d_Co_make_46 : decode zb_Co_make 46 = .ok (.getfield 16, 3) := by decide +kernel
theorem d_Co_make_49 : decode zb_Co_make 49 = .ok (.iload 7, 2) := by decide +kernel
theorem d_Co_make_51 : decode zb_Co_make 51 = .ok (.iconst 2, 1) := by decide +kernel
theorem d_Co_make_52 : decode zb_Co_make 52 = .ok (.iload_n 3, 1) := by decide +kernel
theorem d_Co_make_53 : decode zb_Co_make 53 = .ok (.invokevirtual 47, 3) := by decide +kernel
theorem d_Co_make_56 : decode zb_Co_make 56 = .ok (.aload_n 0, 1) := by decide +kernel
theorem d_Co_make_57 : decode zb_Co_make 57 = .ok (.getfield 16, 3) := by decide +kernel
theorem d_Co_make_60 : decode zb_Co_make 60 = .ok (.iload 7, 2) := by decide +kernel
theorem d_Co_make_62 : decode zb_Co_make 62 = .ok (.iconst 3, 1) := by decide +kernel
theorem d_Co_make_63 : decode zb_Co_make 63 = .ok (.iload 4, 2) := by decide +kernel
theorem d_Co_make_65 : decode zb_Co_make 65 = .ok (.aload_n 0, 1) := by decide +kernel
theorem d_Co_make_66 : decode zb_Co_make 66 = .ok (.getfield 16, 3) := by decide +kernel
theorem d_Co_make_69 : decode zb_Co_make 69 = .ok (.iload 7, 2) := by decide +kernel
theorem d_Co_make_71 : decode zb_Co_make 71 = .ok (.iconst 3, 1) := by decide +kernel
theorem d_Co_make_72 : decode zb_Co_make 72 = .ok (.invokevirtual 36, 3) := by decide +kernel
theorem d_Co_make_75 : decode zb_Co_make 75 = .ok (.invokestatic 50, 3) := by decide +kernel
theorem d_Co_make_78 : decode zb_Co_make 78 = .ok (.invokevirtual 47, 3) := by decide +kernel
theorem d_Co_make_81 : decode zb_Co_make 81 = .ok (.aload_n 0, 1) := by decide +kernel
theorem d_Co_make_82 : decode zb_Co_make 82 = .ok (.getfield 16, 3) := by decide +kernel
theorem d_Co_make_85 : decode zb_Co_make 85 = .ok (.iload 7, 2) := by decide +kernel
theorem d_Co_make_87 : decode zb_Co_make 87 = .ok (.iconst 4, 1) := by decide +kernel
theorem d_Co_make_88 : decode zb_Co_make 88 = .ok (.iload 5, 2) := by decide +kernel
theorem d_Co_make_90 : decode zb_Co_make 90 = .ok (.invokevirtual 47, 3) := by decide +kernel
theorem d_Co_make_93 : decode zb_Co_make 93 = .ok (.aload_n 0, 1) := by decide +kernel
theorem d_Co_make_94 : decode zb_Co_make 94 = .ok (.getfield 16, 3) := by decide +kernel
theorem d_Co_make_97 : decode zb_Co_make 97 = .ok (.iload 7, 2) := by decide +kernel
theorem d_Co_make_99 : decode zb_Co_make 99 = .ok (.iconst 5, 1) := by decide +kernel
theorem d_Co_make_100 : decode zb_Co_make 100 = .ok (.iload 6, 2) := by decide +kernel
theorem d_Co_make_102 : decode zb_Co_make 102 = .ok (.aload_n 0, 1) := by decide +kernel
theorem d_Co_make_103 : decode zb_Co_make 103 = .ok (.getfield 16, 3) := by decide +kernel
theorem d_Co_make_106 : decode zb_Co_make 106 = .ok (.iload 7, 2) := by decide +kernel
theorem d_Co_make_108 : decode zb_Co_make 108 = .ok (.iconst 5, 1) := by decide +kernel
theorem d_Co_make_109 : decode zb_Co_make 109 = .ok (.invokevirtual 36, 3) := by decide +kernel
theorem d_Co_make_112 : decode zb_Co_make 112 = .ok (.invokestatic 50, 3) := by decide +kernel
theorem d_Co_make_115 : decode zb_Co_make 115 = .ok (.invokevirtual 47, 3) := by decide +kernel
theorem d_Co_make_118 : decode zb_Co_make 118 = .ok (.aload_n 0, 1) := by decide +kernel
theorem d_Co_make_119 : decode zb_Co_make 119 = .ok (.getfield 24, 3) := by decide +kernel
theorem d_Co_make_122 : decode zb_Co_make 122 = .ok (.iconst 3, 1) := by decide +kernel
theorem d_Co_make_123 : decode zb_Co_make 123 = .ok (.iload_n 2, 1) := by decide +kernel
theorem d_Co_make_124 : decode zb_Co_make 124 = .ok (.iload_n 1, 1) := by decide +kernel
theorem d_Co_make_125 : decode zb_Co_make 125 = .ok (.invokevirtual 55, 3) := by decide +kernel
theorem d_Co_make_128 : decode zb_Co_make 128 = .ok (.return_, 1) := by decide +kernel
def k_Co_make_56 (l1 : Int32) (l2 : Int32) (l3 : Int32) (l4 : Int32) (l5 : Int32) (l6 : Int32) (l7 : Int32) (x : zsC) : Option (zsC) := (k_Ta_get 6 2304 x.2.1 l7 ((3 : Int32))).bind fun o3 => (k_Ta_set 6 2304 x.2.1 l7 ((3 : Int32)) ((zmax l4 o3))).bind fun o4 => (k_Ta_set 6 2304 o4 l7 ((4 : Int32)) l5).bind fun o5 => (k_Ta_get 6 2304 o5 l7 ((5 : Int32))).bind fun o6 => (k_Ta_set 6 2304 o5 l7 ((5 : Int32)) ((zmax l6 o6))).bind fun o7 => (k_Jo_write x.1 ((3 : Int32)) l2 l1).bind fun o8 => some ((o8, o7, x.2.2))
set_option maxRecDepth 20000 in
theorem w_Co_make_56 {X : zX} {c : zY} {q : Nat → Nat} {l1 : Int32} {l2 : Int32} {l3 : Int32} {l4 : Int32} {l5 : Int32} {l6 : Int32} {out : zsC} (hX : Ok X zr_Co zb_Co_make 8 2 c) (hR : Rt X none none (zwC c q out)) : ∀ (l7 : Int32) (x : zsC), k_Co_make_56 l1 l2 l3 l4 l5 l6 l7 x = some out → Go X (zwC c q x) [(0, .ref ((q 2))), (1, .int l1), (2, .int l2), (4, .int l4), (5, .int l5), (6, .int l6), (7, .int l7)] 56 [] := by
  intro l7 x h
  rw [k_Co_make_56] at h
  refine g_aload_n (pc := 56) hX d_Co_make_56 rfl 0 rfl ?_
  refine gf_Co_16 (pc := 57) (v := .ref ((q 3))) hX 2 rfl rfl d_Co_make_57 ?_
  refine g_iload (pc := 60) hX d_Co_make_60 6 rfl ?_
  refine g_iconst (pc := 62) hX d_Co_make_62 zc_3 ?_
  refine g_iload (pc := 63) hX d_Co_make_63 3 rfl ?_
  refine g_aload_n (pc := 65) hX d_Co_make_65 rfl 0 rfl ?_
  refine gf_Co_16 (pc := 66) (v := .ref ((q 3))) hX 2 rfl rfl d_Co_make_66 ?_
  refine g_iload (pc := 69) hX d_Co_make_69 6 rfl ?_
  refine g_iconst (pc := 71) hX d_Co_make_71 zc_3 ?_
  obtain ⟨o3, e3, h⟩ := zbind h
  refine g_cvI (pc := 72)  (st := [.int l4, .int ((3 : Int32)), .int l7, .ref ((q 3))]) (w' := (zwC c q x)) hX zk_Ta_get zs_Ta_get zL_Co_36 (c_Ta_get c (q 3) (q 4) 6 2304 x.2.1 l7 ((3 : Int32)) e3) rfl rfl rfl rfl (sp_Co_Ta_3 c q x) (sp_Co_Ta_3 c q x).symm 3 6 rfl rfl rfl d_Co_make_72 ?_
  refine g_mmax (pc := 75) hX zL_Co_50 rfl rfl d_Co_make_75 ?_
  obtain ⟨o4, e4, h⟩ := zbind h
  refine g_cvV (pc := 78)  (st := []) (w' := (zwC c q ((x.1, o4, x.2.2)))) hX zk_Ta_set zs_Ta_set zL_Co_47 (c_Ta_set c (q 3) (q 4) 6 2304 x.2.1 l7 ((3 : Int32)) ((zmax l4 o3)) e4) rfl rfl rfl rfl (sp_Co_Ta_3 c q x) (sq_Co_Ta_3 c q x o4) 3 6 rfl rfl rfl d_Co_make_78 ?_
  refine g_aload_n (pc := 81) hX d_Co_make_81 rfl 0 rfl ?_
  refine gf_Co_16 (pc := 82) (v := .ref ((q 3))) hX 2 rfl rfl d_Co_make_82 ?_
  refine g_iload (pc := 85) hX d_Co_make_85 6 rfl ?_
  refine g_iconst (pc := 87) hX d_Co_make_87 zc_4 ?_
  refine g_iload (pc := 88) hX d_Co_make_88 4 rfl ?_
  obtain ⟨o5, e5, h⟩ := zbind h
  refine g_cvV (pc := 90)  (st := []) (w' := (zwC c q ((x.1, o5, x.2.2)))) hX zk_Ta_set zs_Ta_set zL_Co_47 (c_Ta_set c (q 3) (q 4) 6 2304 o4 l7 ((4 : Int32)) l5 e5) rfl rfl rfl rfl (sp_Co_Ta_3 c q ((x.1, o4, x.2.2))) (sq_Co_Ta_3 c q ((x.1, o4, x.2.2)) o5) 3 6 rfl rfl rfl d_Co_make_90 ?_
  refine g_aload_n (pc := 93) hX d_Co_make_93 rfl 0 rfl ?_
  refine gf_Co_16 (pc := 94) (v := .ref ((q 3))) hX 2 rfl rfl d_Co_make_94 ?_
  refine g_iload (pc := 97) hX d_Co_make_97 6 rfl ?_
  refine g_iconst (pc := 99) hX d_Co_make_99 zc_5 ?_
  refine g_iload (pc := 100) hX d_Co_make_100 5 rfl ?_
  refine g_aload_n (pc := 102) hX d_Co_make_102 rfl 0 rfl ?_
  refine gf_Co_16 (pc := 103) (v := .ref ((q 3))) hX 2 rfl rfl d_Co_make_103 ?_
  refine g_iload (pc := 106) hX d_Co_make_106 6 rfl ?_
  refine g_iconst (pc := 108) hX d_Co_make_108 zc_5 ?_
  obtain ⟨o6, e6, h⟩ := zbind h
  refine g_cvI (pc := 109)  (st := [.int l6, .int ((5 : Int32)), .int l7, .ref ((q 3))]) (w' := (zwC c q ((x.1, o5, x.2.2)))) hX zk_Ta_get zs_Ta_get zL_Co_36 (c_Ta_get c (q 3) (q 4) 6 2304 o5 l7 ((5 : Int32)) e6) rfl rfl rfl rfl (sp_Co_Ta_3 c q ((x.1, o5, x.2.2))) (sp_Co_Ta_3 c q ((x.1, o5, x.2.2))).symm 3 6 rfl rfl rfl d_Co_make_109 ?_
  refine g_mmax (pc := 112) hX zL_Co_50 rfl rfl d_Co_make_112 ?_
  obtain ⟨o7, e7, h⟩ := zbind h
  refine g_cvV (pc := 115)  (st := []) (w' := (zwC c q ((x.1, o7, x.2.2)))) hX zk_Ta_set zs_Ta_set zL_Co_47 (c_Ta_set c (q 3) (q 4) 6 2304 o5 l7 ((5 : Int32)) ((zmax l6 o6)) e7) rfl rfl rfl rfl (sp_Co_Ta_3 c q ((x.1, o5, x.2.2))) (sq_Co_Ta_3 c q ((x.1, o5, x.2.2)) o7) 3 6 rfl rfl rfl d_Co_make_115 ?_
  refine g_aload_n (pc := 118) hX d_Co_make_118 rfl 0 rfl ?_
  refine gf_Co_24 (pc := 119) (v := .ref ((q 0))) hX 2 rfl rfl d_Co_make_119 ?_
  refine g_iconst (pc := 122) hX d_Co_make_122 zc_3 ?_
  refine g_iload_n (pc := 123) hX d_Co_make_123 rfl 2 rfl ?_
  refine g_iload_n (pc := 124) hX d_Co_make_124 rfl 1 rfl ?_
  obtain ⟨o8, e8, h⟩ := zbind h
  refine g_cvV (pc := 125)  (st := []) (w' := (zwC c q ((o8, o7, x.2.2)))) hX zk_Jo_write zs_Jo_write zL_Co_55 (c_Jo_write c q x.1 ((3 : Int32)) l2 l1 e8) rfl rfl rfl rfl (sp_Co_Jo_0 c q ((x.1, o7, x.2.2))) (sq_Co_Jo_0 c q ((x.1, o7, x.2.2)) o8) 0 4 rfl rfl rfl d_Co_make_125 ?_
  obtain rfl := Option.some.inj h
  exact g_vret (pc := 128) hX hR d_Co_make_128
def k_Co_make (x : zsC) (l1 : Int32) (l2 : Int32) (l3 : Int32) (l4 : Int32) (l5 : Int32) (l6 : Int32) : Option (zsC) := (k_Co_find x l1 l2 l3).bind fun o1 => (if o1 < 0 then (k_Ta_append 6 2304 x.2.1).bind fun o9 => (k_Ta_set 6 2304 o9.2 o9.1 ((0 : Int32)) l1).bind fun o10 => (k_Ta_set 6 2304 o10 o9.1 ((1 : Int32)) l2).bind fun o11 => (k_Ta_set 6 2304 o11 o9.1 ((2 : Int32)) l3).bind fun o12 => k_Co_make_56 l1 l2 l3 l4 l5 l6 o9.1 ((x.1, o12, x.2.2)) else k_Co_make_56 l1 l2 l3 l4 l5 l6 o1 x)
set_option maxRecDepth 20000 in
theorem c_Co_make (c : zY) (q : Nat → Nat) (x : zsC) (l1 : Int32) (l2 : Int32) (l3 : Int32) (l4 : Int32) (l5 : Int32) (l6 : Int32) {out : zsC} (h : k_Co_make x l1 l2 l3 l4 l5 l6 = some out) : KM zy_Co_make zb_Co_make 8 none 2 c [.ref ((q 2)), .int l1, .int l2, .int l3, .int l4, .int l5, .int l6] (zwC c q x) (zwC c q out) none := zK_of zp_Co rfl (Nat.le_of_ble_eq_true rfl) (zq_Co c q _ _) (fun X hX hR => by
  show Go X (zwC c q x) [(0, .ref ((q 2))), (1, .int l1), (2, .int l2), (3, .int l3), (4, .int l4), (5, .int l5), (6, .int l6)] 0 []
  rw [k_Co_make] at h
  refine g_aload_n (pc := 0) hX d_Co_make_0 rfl 0 rfl ?_
  refine g_iload_n (pc := 1) hX d_Co_make_1 rfl 1 rfl ?_
  refine g_iload_n (pc := 2) hX d_Co_make_2 rfl 2 rfl ?_
  refine g_iload_n (pc := 3) hX d_Co_make_3 rfl 3 rfl ?_
  obtain ⟨o1, e1, h⟩ := zbind h
  refine g_cvI (pc := 4) (w1 := []) (w2 := []) (st := []) (w' := (zwC c q x)) hX zk_Co_find zs_Co_find zL_Co_40 (c_Co_find c q x l1 l2 l3 e1) rfl rfl rfl rfl (zself _) (zself _).symm 2 1 rfl rfl rfl d_Co_make_4 ?_
  refine g_istore (pc := 7) (L' := [(7, .int o1), (0, .ref ((q 2))), (1, .int l1), (2, .int l2), (3, .int l3), (4, .int l4), (5, .int l5), (6, .int l6)]) hX d_Co_make_7 rfl rfl ?_
  refine g_iload (pc := 9) hX d_Co_make_9 0 rfl ?_
  refine g_if_ge (pc := 11) (tgt := 56) hX d_Co_make_11 (by decide) h (fun c2 h => ?_) (fun c2 h => ?_)
  · refine g_ls (L' := [(0, .ref ((q 2))), (1, .int l1), (2, .int l2), (4, .int l4), (5, .int l5), (6, .int l6), (7, .int o1)]) [1, 2, 3, 5, 6, 7, 0] rfl ?_
    exact w_Co_make_56 hX hR _ _ h
  · refine g_aload_n (pc := 14) hX d_Co_make_14 rfl 1 rfl ?_
    refine gf_Co_16 (pc := 15) (v := .ref ((q 3))) hX 2 rfl rfl d_Co_make_15 ?_
    obtain ⟨o9, e9, h⟩ := zbind h
    refine g_cvI (pc := 18)  (st := []) (w' := (zwC c q ((x.1, o9.2, x.2.2)))) hX zk_Ta_append zs_Ta_append zL_Co_44 (c_Ta_append c (q 3) (q 4) 6 2304 x.2.1 e9) rfl rfl rfl rfl (sp_Co_Ta_3 c q x) (sq_Co_Ta_3 c q x o9.2) 3 6 rfl rfl rfl d_Co_make_18 ?_
    refine g_istore (pc := 21) (L' := [(7, .int o9.1), (0, .ref ((q 2))), (1, .int l1), (2, .int l2), (3, .int l3), (4, .int l4), (5, .int l5), (6, .int l6)]) hX d_Co_make_21 rfl rfl ?_
    refine g_aload_n (pc := 23) hX d_Co_make_23 rfl 1 rfl ?_
    refine gf_Co_16 (pc := 24) (v := .ref ((q 3))) hX 2 rfl rfl d_Co_make_24 ?_
    refine g_iload (pc := 27) hX d_Co_make_27 0 rfl ?_
    refine g_iconst (pc := 29) hX d_Co_make_29 zc_0 ?_
    refine g_iload_n (pc := 30) hX d_Co_make_30 rfl 2 rfl ?_
    obtain ⟨o10, e10, h⟩ := zbind h
    refine g_cvV (pc := 31)  (st := []) (w' := (zwC c q ((x.1, o10, x.2.2)))) hX zk_Ta_set zs_Ta_set zL_Co_47 (c_Ta_set c (q 3) (q 4) 6 2304 o9.2 o9.1 ((0 : Int32)) l1 e10) rfl rfl rfl rfl (sp_Co_Ta_3 c q ((x.1, o9.2, x.2.2))) (sq_Co_Ta_3 c q ((x.1, o9.2, x.2.2)) o10) 3 6 rfl rfl rfl d_Co_make_31 ?_
    refine g_aload_n (pc := 34) hX d_Co_make_34 rfl 1 rfl ?_
    refine gf_Co_16 (pc := 35) (v := .ref ((q 3))) hX 2 rfl rfl d_Co_make_35 ?_
    refine g_iload (pc := 38) hX d_Co_make_38 0 rfl ?_
    refine g_iconst (pc := 40) hX d_Co_make_40 zc_1 ?_
    refine g_iload_n (pc := 41) hX d_Co_make_41 rfl 3 rfl ?_
    obtain ⟨o11, e11, h⟩ := zbind h
    refine g_cvV (pc := 42)  (st := []) (w' := (zwC c q ((x.1, o11, x.2.2)))) hX zk_Ta_set zs_Ta_set zL_Co_47 (c_Ta_set c (q 3) (q 4) 6 2304 o10 o9.1 ((1 : Int32)) l2 e11) rfl rfl rfl rfl (sp_Co_Ta_3 c q ((x.1, o10, x.2.2))) (sq_Co_Ta_3 c q ((x.1, o10, x.2.2)) o11) 3 6 rfl rfl rfl d_Co_make_42 ?_
    refine g_aload_n (pc := 45) hX d_Co_make_45 rfl 1 rfl ?_
    refine gf_Co_16 (pc := 46) (v := .ref ((q 3))) hX 2 rfl rfl d_Co_make_46 ?_
    refine g_iload (pc := 49) hX d_Co_make_49 0 rfl ?_
    refine g_iconst (pc := 51) hX d_Co_make_51 zc_2 ?_
    refine g_iload_n (pc := 52) hX d_Co_make_52 rfl 4 rfl ?_
    obtain ⟨o12, e12, h⟩ := zbind h
    refine g_cvV (pc := 53)  (st := []) (w' := (zwC c q ((x.1, o12, x.2.2)))) hX zk_Ta_set zs_Ta_set zL_Co_47 (c_Ta_set c (q 3) (q 4) 6 2304 o11 o9.1 ((2 : Int32)) l3 e12) rfl rfl rfl rfl (sp_Co_Ta_3 c q ((x.1, o11, x.2.2))) (sq_Co_Ta_3 c q ((x.1, o11, x.2.2)) o12) 3 6 rfl rfl rfl d_Co_make_53 ?_
    refine g_ls (L' := [(0, .ref ((q 2))), (1, .int l1), (2, .int l2), (4, .int l4), (5, .int l5), (6, .int l6), (7, .int o9.1)]) [1, 2, 3, 5, 6, 7, 0] rfl ?_
    exact w_Co_make_56 hX hR _ _ h)
theorem d_Co_sumOf_0 : decode zb_Co_sumOf 0 = .ok (.iconst 0, 1) := by decide +kernel
theorem d_Co_sumOf_1 : decode zb_Co_sumOf 1 = .ok (.istore_n 3, 1) := by decide +kernel
theorem d_Co_sumOf_2 : decode zb_Co_sumOf 2 = .ok (.iconst 0, 1) := by decide +kernel
theorem d_Co_sumOf_3 : decode zb_Co_sumOf 3 = .ok (.istore 4, 2) := by decide +kernel
theorem d_Co_sumOf_5 : decode zb_Co_sumOf 5 = .ok (.iload 4, 2) := by decide +kernel
theorem d_Co_sumOf_7 : decode zb_Co_sumOf 7 = .ok (.aload_n 0, 1) := by decide +kernel
theorem d_Co_sumOf_8 : decode zb_Co_sumOf 8 = .ok (.getfield 16, 3) := by decide +kernel
theorem d_Co_sumOf_11 : decode zb_Co_sumOf 11 = .ok (.invokevirtual 28, 3) := by decide +kernel
theorem d_Co_sumOf_14 : decode zb_Co_sumOf 14 = .ok (.if_icmp .ge 50, 3) := by decide +kernel
theorem d_Co_sumOf_17 : decode zb_Co_sumOf 17 = .ok (.aload_n 0, 1) := by decide +kernel
theorem d_Co_sumOf_18 : decode zb_Co_sumOf 18 = .ok (.getfield 16, 3) := by decide +kernel
theorem d_Co_sumOf_21 : decode zb_Co_sumOf 21 = .ok (.iload 4, 2) := by decide +kernel
theorem d_Co_sumOf_23 : decode zb_Co_sumOf 23 = .ok (.iconst 1, 1) := by decide +kernel
theorem d_Co_sumOf_24 : decode zb_Co_sumOf 24 = .ok (.invokevirtual 36, 3) := by decide +kernel
theorem d_Co_sumOf_27 : decode zb_Co_sumOf 27 = .ok (.iload_n 1, 1) := by decide +kernel
theorem d_Co_sumOf_28 : decode zb_Co_sumOf 28 = .ok (.if_icmp .ne 30, 3) := by decide +kernel
theorem d_Co_sumOf_31 : decode zb_Co_sumOf 31 = .ok (.aload_n 0, 1) := by decide +kernel
theorem d_Co_sumOf_32 : decode zb_Co_sumOf 32 = .ok (.getfield 16, 3) := by decide +kernel
theorem d_Co_sumOf_35 : decode zb_Co_sumOf 35 = .ok (.iload 4, 2) := by decide +kernel
theorem d_Co_sumOf_37 : decode zb_Co_sumOf 37 = .ok (.iconst 0, 1) := by decide +kernel
theorem d_Co_sumOf_38 : decode zb_Co_sumOf 38 = .ok (.invokevirtual 36, 3) := by decide +kernel
theorem d_Co_sumOf_41 : decode zb_Co_sumOf 41 = .ok (.iload_n 2, 1) := by decide +kernel
theorem d_Co_sumOf_42 : decode zb_Co_sumOf 42 = .ok (.if_icmp .ne 16, 3) := by decide +kernel
theorem d_Co_sumOf_45 : decode zb_Co_sumOf 45 = .ok (.iload_n 3, 1) := by decide +kernel
theorem d_Co_sumOf_46 : decode zb_Co_sumOf 46 = .ok (.aload_n 0, 1) := by decide +kernel
theorem d_Co_sumOf_47 : decode zb_Co_sumOf 47 = .ok (.getfield 16, 3) := by decide +kernel
theorem d_Co_sumOf_50 : decode zb_Co_sumOf 50 = .ok (.iload 4, 2) := by decide +kernel
theorem d_Co_sumOf_52 : decode zb_Co_sumOf 52 = .ok (.iconst 3, 1) := by decide +kernel
theorem d_Co_sumOf_53 : decode zb_Co_sumOf 53 = .ok (.invokevirtual 36, 3) := by decide +kernel
theorem d_Co_sumOf_56 : decode zb_Co_sumOf 56 = .ok (.iadd, 1) := by decide +kernel
theorem d_Co_sumOf_57 : decode zb_Co_sumOf 57 = .ok (.istore_n 3, 1) := by decide +kernel
theorem d_Co_sumOf_58 : decode zb_Co_sumOf 58 = .ok (.iinc 4 1, 3) := by decide +kernel
theorem d_Co_sumOf_61 : decode zb_Co_sumOf 61 = .ok (.goto (-56), 3) := by decide +kernel
theorem d_Co_sumOf_64 : decode zb_Co_sumOf 64 = .ok (.iload_n 3, 1) := by decide +kernel
theorem d_Co_sumOf_65 : decode zb_Co_sumOf 65 = .ok (.ireturn, 1) := by decide +kernel
def k_Co_sumOf_5 (x : zsC) (l1 : Int32) (l2 : Int32) : Nat → Int32 → Int32 → Option (Int32)
  | 0, _, _ => none
  | fu + 1, l3, l4 => (k_Ta_used 6 2304 x.2.1).bind fun o1 => (if l4 < o1 then (k_Ta_get 6 2304 x.2.1 l4 ((1 : Int32))).bind fun o3 => (if o3 = l1 then (k_Ta_get 6 2304 x.2.1 l4 ((0 : Int32))).bind fun o5 => (if o5 = l2 then (k_Ta_get 6 2304 x.2.1 l4 ((3 : Int32))).bind fun o7 => k_Co_sumOf_5 x l1 l2 fu ((l3 + o7)) ((l4 + (1 : Int32))) else k_Co_sumOf_5 x l1 l2 fu l3 ((l4 + (1 : Int32)))) else k_Co_sumOf_5 x l1 l2 fu l3 ((l4 + (1 : Int32)))) else some l3)
set_option maxRecDepth 20000 in
theorem w_Co_sumOf_5 {X : zX} {c : zY} {q : Nat → Nat} {x : zsC} {l1 : Int32} {l2 : Int32} {out : Int32} (hX : Ok X zr_Co zb_Co_sumOf 5 1 c) (hR : Rt X (some .int) (some (.int out)) (zwC c q x)) : ∀ (fu : Nat) (l3 : Int32) (l4 : Int32), k_Co_sumOf_5 x l1 l2 fu l3 l4 = some out → Go X (zwC c q x) [(0, .ref ((q 2))), (1, .int l1), (2, .int l2), (3, .int l3), (4, .int l4)] 5 [] := by
  intro fu
  induction fu with
  | zero => intro l3 l4 h; rw [k_Co_sumOf_5] at h; cases h
  | succ fu ih =>
    intro l3 l4 h
    rw [k_Co_sumOf_5] at h
    refine g_iload (pc := 5) hX d_Co_sumOf_5 4 rfl ?_
    refine g_aload_n (pc := 7) hX d_Co_sumOf_7 rfl 0 rfl ?_
    refine gf_Co_16 (pc := 8) (v := .ref ((q 3))) hX 2 rfl rfl d_Co_sumOf_8 ?_
    obtain ⟨o1, e1, h⟩ := zbind h
    refine g_cvI (pc := 11)  (st := [.int l4]) (w' := (zwC c q x)) hX zk_Ta_used zs_Ta_used zL_Co_28 (c_Ta_used c (q 3) (q 4) 6 2304 x.2.1 e1) rfl rfl rfl rfl (sp_Co_Ta_3 c q x) (sp_Co_Ta_3 c q x).symm 3 6 rfl rfl rfl d_Co_sumOf_11 ?_
    refine g_icmp_ge (pc := 14) (tgt := 64) hX d_Co_sumOf_14 (by decide) h (fun c2 h => ?_) (fun c2 h => ?_)
    · refine g_iload_n (pc := 64) hX d_Co_sumOf_64 rfl 3 rfl ?_
      obtain rfl := Option.some.inj h
      exact g_iret (pc := 65) hX hR d_Co_sumOf_65
    · refine g_aload_n (pc := 17) hX d_Co_sumOf_17 rfl 0 rfl ?_
      refine gf_Co_16 (pc := 18) (v := .ref ((q 3))) hX 2 rfl rfl d_Co_sumOf_18 ?_
      refine g_iload (pc := 21) hX d_Co_sumOf_21 4 rfl ?_
      refine g_iconst (pc := 23) hX d_Co_sumOf_23 zc_1 ?_
      obtain ⟨o3, e3, h⟩ := zbind h
      refine g_cvI (pc := 24)  (st := []) (w' := (zwC c q x)) hX zk_Ta_get zs_Ta_get zL_Co_36 (c_Ta_get c (q 3) (q 4) 6 2304 x.2.1 l4 ((1 : Int32)) e3) rfl rfl rfl rfl (sp_Co_Ta_3 c q x) (sp_Co_Ta_3 c q x).symm 3 6 rfl rfl rfl d_Co_sumOf_24 ?_
      refine g_iload_n (pc := 27) hX d_Co_sumOf_27 rfl 1 rfl ?_
      refine g_icmp_ne (pc := 28) (tgt := 58) hX d_Co_sumOf_28 (by decide) h (fun c4 h => ?_) (fun c4 h => ?_)
      · refine g_iinc (pc := 58) (q := 4) (L' := [(4, .int ((l4 + (1 : Int32)))), (0, .ref ((q 2))), (1, .int l1), (2, .int l2), (3, .int l3)]) hX d_Co_sumOf_58 rfl zc_1 rfl rfl ?_
        refine g_goto (pc := 61) (tgt := 5) hX d_Co_sumOf_61 (by decide) ?_
        refine g_ls (L' := [(0, .ref ((q 2))), (1, .int l1), (2, .int l2), (3, .int l3), (4, .int ((l4 + (1 : Int32))))]) [1, 2, 3, 4, 0] rfl ?_
        exact ih _ _ h
      · refine g_aload_n (pc := 31) hX d_Co_sumOf_31 rfl 0 rfl ?_
        refine gf_Co_16 (pc := 32) (v := .ref ((q 3))) hX 2 rfl rfl d_Co_sumOf_32 ?_
        refine g_iload (pc := 35) hX d_Co_sumOf_35 4 rfl ?_
        refine g_iconst (pc := 37) hX d_Co_sumOf_37 zc_0 ?_
        obtain ⟨o5, e5, h⟩ := zbind h
        refine g_cvI (pc := 38)  (st := []) (w' := (zwC c q x)) hX zk_Ta_get zs_Ta_get zL_Co_36 (c_Ta_get c (q 3) (q 4) 6 2304 x.2.1 l4 ((0 : Int32)) e5) rfl rfl rfl rfl (sp_Co_Ta_3 c q x) (sp_Co_Ta_3 c q x).symm 3 6 rfl rfl rfl d_Co_sumOf_38 ?_
        refine g_iload_n (pc := 41) hX d_Co_sumOf_41 rfl 2 rfl ?_
        refine g_icmp_ne (pc := 42) (tgt := 58) hX d_Co_sumOf_42 (by decide) h (fun c6 h => ?_) (fun c6 h => ?_)
        · refine g_iinc (pc := 58) (q := 4) (L' := [(4, .int ((l4 + (1 : Int32)))), (0, .ref ((q 2))), (1, .int l1), (2, .int l2), (3, .int l3)]) hX d_Co_sumOf_58 rfl zc_1 rfl rfl ?_
          refine g_goto (pc := 61) (tgt := 5) hX d_Co_sumOf_61 (by decide) ?_
          refine g_ls (L' := [(0, .ref ((q 2))), (1, .int l1), (2, .int l2), (3, .int l3), (4, .int ((l4 + (1 : Int32))))]) [1, 2, 3, 4, 0] rfl ?_
          exact ih _ _ h
        · refine g_iload_n (pc := 45) hX d_Co_sumOf_45 rfl 3 rfl ?_
          refine g_aload_n (pc := 46) hX d_Co_sumOf_46 rfl 0 rfl ?_
          refine gf_Co_16 (pc := 47) (v := .ref ((q 3))) hX 2 rfl rfl d_Co_sumOf_47 ?_
          refine g_iload (pc := 50) hX d_Co_sumOf_50 4 rfl ?_
          refine g_iconst (pc := 52) hX d_Co_sumOf_52 zc_3 ?_
          obtain ⟨o7, e7, h⟩ := zbind h
          refine g_cvI (pc := 53)  (st := [.int l3]) (w' := (zwC c q x)) hX zk_Ta_get zs_Ta_get zL_Co_36 (c_Ta_get c (q 3) (q 4) 6 2304 x.2.1 l4 ((3 : Int32)) e7) rfl rfl rfl rfl (sp_Co_Ta_3 c q x) (sp_Co_Ta_3 c q x).symm 3 6 rfl rfl rfl d_Co_sumOf_53 ?_
          refine g_iadd (pc := 56) hX d_Co_sumOf_56 ?_
          refine g_istore_n (pc := 57) (L' := [(3, .int ((l3 + o7))), (0, .ref ((q 2))), (1, .int l1), (2, .int l2), (4, .int l4)]) hX d_Co_sumOf_57 rfl rfl rfl ?_
          refine g_iinc (pc := 58) (q := 4) (L' := [(4, .int ((l4 + (1 : Int32)))), (3, .int ((l3 + o7))), (0, .ref ((q 2))), (1, .int l1), (2, .int l2)]) hX d_Co_sumOf_58 rfl zc_1 rfl rfl ?_
          refine g_goto (pc := 61) (tgt := 5) hX d_Co_sumOf_61 (by decide) ?_
          refine g_ls (L' := [(0, .ref ((q 2))), (1, .int l1), (2, .int l2), (3, .int ((l3 + o7))), (4, .int ((l4 + (1 : Int32))))]) [2, 3, 4, 1, 0] rfl ?_
          exact ih _ _ h
def k_Co_sumOf (x : zsC) (l1 : Int32) (l2 : Int32) : Option (Int32) := k_Co_sumOf_5 x l1 l2 zFu ((0 : Int32)) ((0 : Int32))
set_option maxRecDepth 20000 in
theorem c_Co_sumOf (c : zY) (q : Nat → Nat) (x : zsC) (l1 : Int32) (l2 : Int32) {out : Int32} (h : k_Co_sumOf x l1 l2 = some out) : KM zy_Co_sumOf zb_Co_sumOf 5 (some .int) 1 c [.ref ((q 2)), .int l1, .int l2] (zwC c q x) (zwC c q x) (some (.int out)) := zK_of zp_Co rfl (Nat.le_of_ble_eq_true rfl) (zq_Co c q _ _) (fun X hX hR => by
  show Go X (zwC c q x) [(0, .ref ((q 2))), (1, .int l1), (2, .int l2)] 0 []
  rw [k_Co_sumOf] at h
  refine g_iconst (pc := 0) hX d_Co_sumOf_0 zc_0 ?_
  refine g_istore_n (pc := 1) (L' := [(3, .int ((0 : Int32))), (0, .ref ((q 2))), (1, .int l1), (2, .int l2)]) hX d_Co_sumOf_1 rfl rfl rfl ?_
  refine g_iconst (pc := 2) hX d_Co_sumOf_2 zc_0 ?_
  refine g_istore (pc := 3) (L' := [(4, .int ((0 : Int32))), (3, .int ((0 : Int32))), (0, .ref ((q 2))), (1, .int l1), (2, .int l2)]) hX d_Co_sumOf_3 rfl rfl ?_
  refine g_ls (L' := [(0, .ref ((q 2))), (1, .int l1), (2, .int l2), (3, .int ((0 : Int32))), (4, .int ((0 : Int32)))]) [2, 3, 4, 1, 0] rfl ?_
  exact w_Co_sumOf_5 hX hR _ _ _ h)
theorem d_Co_numberOf_0 : decode zb_Co_numberOf 0 = .ok (.iconst 0, 1) := by decide +kernel
theorem d_Co_numberOf_1 : decode zb_Co_numberOf 1 = .ok (.istore_n 2, 1) := by decide +kernel
theorem d_Co_numberOf_2 : decode zb_Co_numberOf 2 = .ok (.iconst 0, 1) := by decide +kernel
theorem d_Co_numberOf_3 : decode zb_Co_numberOf 3 = .ok (.istore_n 3, 1) := by decide +kernel
theorem d_Co_numberOf_4 : decode zb_Co_numberOf 4 = .ok (.iload_n 3, 1) := by decide +kernel
theorem d_Co_numberOf_5 : decode zb_Co_numberOf 5 = .ok (.aload_n 0, 1) := by decide +kernel
theorem d_Co_numberOf_6 : decode zb_Co_numberOf 6 = .ok (.getfield 16, 3) := by decide +kernel
theorem d_Co_numberOf_9 : decode zb_Co_numberOf 9 = .ok (.invokevirtual 28, 3) := by decide +kernel
theorem d_Co_numberOf_12 : decode zb_Co_numberOf 12 = .ok (.if_icmp .ge 25, 3) := by decide +kernel
theorem d_Co_numberOf_15 : decode zb_Co_numberOf 15 = .ok (.aload_n 0, 1) := by decide +kernel
theorem d_Co_numberOf_16 : decode zb_Co_numberOf 16 = .ok (.getfield 16, 3) := by decide +kernel
theorem d_Co_numberOf_19 : decode zb_Co_numberOf 19 = .ok (.iload_n 3, 1) := by decide +kernel
theorem d_Co_numberOf_20 : decode zb_Co_numberOf 20 = .ok (.iconst 1, 1) := by decide +kernel
theorem d_Co_numberOf_21 : decode zb_Co_numberOf 21 = .ok (.invokevirtual 36, 3) := by decide +kernel
theorem d_Co_numberOf_24 : decode zb_Co_numberOf 24 = .ok (.iload_n 1, 1) := by decide +kernel
theorem d_Co_numberOf_25 : decode zb_Co_numberOf 25 = .ok (.if_icmp .ne 6, 3) := by decide +kernel
theorem d_Co_numberOf_28 : decode zb_Co_numberOf 28 = .ok (.iinc 2 1, 3) := by decide +kernel
theorem d_Co_numberOf_31 : decode zb_Co_numberOf 31 = .ok (.iinc 3 1, 3) := by decide +kernel
theorem d_Co_numberOf_34 : decode zb_Co_numberOf 34 = .ok (.goto (-30), 3) := by decide +kernel
theorem d_Co_numberOf_37 : decode zb_Co_numberOf 37 = .ok (.iload_n 2, 1) := by decide +kernel
theorem d_Co_numberOf_38 : decode zb_Co_numberOf 38 = .ok (.ireturn, 1) := by decide +kernel
def k_Co_numberOf_4 (x : zsC) (l1 : Int32) : Nat → Int32 → Int32 → Option (Int32)
  | 0, _, _ => none
  | fu + 1, l2, l3 => (k_Ta_used 6 2304 x.2.1).bind fun o1 => (if l3 < o1 then (k_Ta_get 6 2304 x.2.1 l3 ((1 : Int32))).bind fun o3 => (if o3 = l1 then k_Co_numberOf_4 x l1 fu ((l2 + (1 : Int32))) ((l3 + (1 : Int32))) else k_Co_numberOf_4 x l1 fu l2 ((l3 + (1 : Int32)))) else some l2)
set_option maxRecDepth 20000 in
theorem w_Co_numberOf_4 {X : zX} {c : zY} {q : Nat → Nat} {x : zsC} {l1 : Int32} {out : Int32} (hX : Ok X zr_Co zb_Co_numberOf 4 1 c) (hR : Rt X (some .int) (some (.int out)) (zwC c q x)) : ∀ (fu : Nat) (l2 : Int32) (l3 : Int32), k_Co_numberOf_4 x l1 fu l2 l3 = some out → Go X (zwC c q x) [(0, .ref ((q 2))), (1, .int l1), (2, .int l2), (3, .int l3)] 4 [] := by
  intro fu
  induction fu with
  | zero => intro l2 l3 h; rw [k_Co_numberOf_4] at h; cases h
  | succ fu ih =>
    intro l2 l3 h
    rw [k_Co_numberOf_4] at h
    refine g_iload_n (pc := 4) hX d_Co_numberOf_4 rfl 3 rfl ?_
    refine g_aload_n (pc := 5) hX d_Co_numberOf_5 rfl 0 rfl ?_
    refine gf_Co_16 (pc := 6) (v := .ref ((q 3))) hX 2 rfl rfl d_Co_numberOf_6 ?_
    obtain ⟨o1, e1, h⟩ := zbind h
    refine g_cvI (pc := 9)  (st := [.int l3]) (w' := (zwC c q x)) hX zk_Ta_used zs_Ta_used zL_Co_28 (c_Ta_used c (q 3) (q 4) 6 2304 x.2.1 e1) rfl rfl rfl rfl (sp_Co_Ta_3 c q x) (sp_Co_Ta_3 c q x).symm 3 6 rfl rfl rfl d_Co_numberOf_9 ?_
    refine g_icmp_ge (pc := 12) (tgt := 37) hX d_Co_numberOf_12 (by decide) h (fun c2 h => ?_) (fun c2 h => ?_)
    · refine g_iload_n (pc := 37) hX d_Co_numberOf_37 rfl 2 rfl ?_
      obtain rfl := Option.some.inj h
      exact g_iret (pc := 38) hX hR d_Co_numberOf_38
    · refine g_aload_n (pc := 15) hX d_Co_numberOf_15 rfl 0 rfl ?_
      refine gf_Co_16 (pc := 16) (v := .ref ((q 3))) hX 2 rfl rfl d_Co_numberOf_16 ?_
      refine g_iload_n (pc := 19) hX d_Co_numberOf_19 rfl 3 rfl ?_
      refine g_iconst (pc := 20) hX d_Co_numberOf_20 zc_1 ?_
      obtain ⟨o3, e3, h⟩ := zbind h
      refine g_cvI (pc := 21)  (st := []) (w' := (zwC c q x)) hX zk_Ta_get zs_Ta_get zL_Co_36 (c_Ta_get c (q 3) (q 4) 6 2304 x.2.1 l3 ((1 : Int32)) e3) rfl rfl rfl rfl (sp_Co_Ta_3 c q x) (sp_Co_Ta_3 c q x).symm 3 6 rfl rfl rfl d_Co_numberOf_21 ?_
      refine g_iload_n (pc := 24) hX d_Co_numberOf_24 rfl 1 rfl ?_
      refine g_icmp_ne (pc := 25) (tgt := 31) hX d_Co_numberOf_25 (by decide) h (fun c4 h => ?_) (fun c4 h => ?_)
      · refine g_iinc (pc := 31) (q := 3) (L' := [(3, .int ((l3 + (1 : Int32)))), (0, .ref ((q 2))), (1, .int l1), (2, .int l2)]) hX d_Co_numberOf_31 rfl zc_1 rfl rfl ?_
        refine g_goto (pc := 34) (tgt := 4) hX d_Co_numberOf_34 (by decide) ?_
        refine g_ls (L' := [(0, .ref ((q 2))), (1, .int l1), (2, .int l2), (3, .int ((l3 + (1 : Int32))))]) [1, 2, 3, 0] rfl ?_
        exact ih _ _ h
      · refine g_iinc (pc := 28) (q := 2) (L' := [(2, .int ((l2 + (1 : Int32)))), (0, .ref ((q 2))), (1, .int l1), (3, .int l3)]) hX d_Co_numberOf_28 rfl zc_1 rfl rfl ?_
        refine g_iinc (pc := 31) (q := 3) (L' := [(3, .int ((l3 + (1 : Int32)))), (2, .int ((l2 + (1 : Int32)))), (0, .ref ((q 2))), (1, .int l1)]) hX d_Co_numberOf_31 rfl zc_1 rfl rfl ?_
        refine g_goto (pc := 34) (tgt := 4) hX d_Co_numberOf_34 (by decide) ?_
        refine g_ls (L' := [(0, .ref ((q 2))), (1, .int l1), (2, .int ((l2 + (1 : Int32)))), (3, .int ((l3 + (1 : Int32))))]) [2, 3, 1, 0] rfl ?_
        exact ih _ _ h
def k_Co_numberOf (x : zsC) (l1 : Int32) : Option (Int32) := k_Co_numberOf_4 x l1 zFu ((0 : Int32)) ((0 : Int32))
set_option maxRecDepth 20000 in
theorem c_Co_numberOf (c : zY) (q : Nat → Nat) (x : zsC) (l1 : Int32) {out : Int32} (h : k_Co_numberOf x l1 = some out) : KM zy_Co_numberOf zb_Co_numberOf 4 (some .int) 1 c [.ref ((q 2)), .int l1] (zwC c q x) (zwC c q x) (some (.int out)) := zK_of zp_Co rfl (Nat.le_of_ble_eq_true rfl) (zq_Co c q _ _) (fun X hX hR => by
  show Go X (zwC c q x) [(0, .ref ((q 2))), (1, .int l1)] 0 []
  rw [k_Co_numberOf] at h
  refine g_iconst (pc := 0) hX d_Co_numberOf_0 zc_0 ?_
  refine g_istore_n (pc := 1) (L' := [(2, .int ((0 : Int32))), (0, .ref ((q 2))), (1, .int l1)]) hX d_Co_numberOf_1 rfl rfl rfl ?_
  refine g_iconst (pc := 2) hX d_Co_numberOf_2 zc_0 ?_
  refine g_istore_n (pc := 3) (L' := [(3, .int ((0 : Int32))), (2, .int ((0 : Int32))), (0, .ref ((q 2))), (1, .int l1)]) hX d_Co_numberOf_3 rfl rfl rfl ?_
  refine g_ls (L' := [(0, .ref ((q 2))), (1, .int l1), (2, .int ((0 : Int32))), (3, .int ((0 : Int32)))]) [2, 3, 1, 0] rfl ?_
  exact w_Co_numberOf_4 hX hR _ _ _ h)
theorem d_Co_listPoisoners_0 : decode zb_Co_listPoisoners 0 = .ok (.iconst 0, 1) := by decide +kernel
theorem d_Co_listPoisoners_1 : decode zb_Co_listPoisoners 1 = .ok (.istore_n 2, 1) := by decide +kernel
theorem d_Co_listPoisoners_2 : decode zb_Co_listPoisoners 2 = .ok (.iconst 0, 1) := by decide +kernel
theorem d_Co_listPoisoners_3 : decode zb_Co_listPoisoners 3 = .ok (.istore_n 3, 1) := by decide +kernel
theorem d_Co_listPoisoners_4 : decode zb_Co_listPoisoners 4 = .ok (.iload_n 3, 1) := by decide +kernel
theorem d_Co_listPoisoners_5 : decode zb_Co_listPoisoners 5 = .ok (.aload_n 0, 1) := by decide +kernel
theorem d_Co_listPoisoners_6 : decode zb_Co_listPoisoners 6 = .ok (.getfield 16, 3) := by decide +kernel
theorem d_Co_listPoisoners_9 : decode zb_Co_listPoisoners 9 = .ok (.invokevirtual 28, 3) := by decide +kernel
theorem d_Co_listPoisoners_12 : decode zb_Co_listPoisoners 12 = .ok (.if_icmp .ge 73, 3) := by decide +kernel
theorem d_Co_listPoisoners_15 : decode zb_Co_listPoisoners 15 = .ok (.aload_n 0, 1) := by decide +kernel
theorem d_Co_listPoisoners_16 : decode zb_Co_listPoisoners 16 = .ok (.getfield 16, 3) := by decide +kernel
theorem d_Co_listPoisoners_19 : decode zb_Co_listPoisoners 19 = .ok (.iload_n 3, 1) := by decide +kernel
theorem d_Co_listPoisoners_20 : decode zb_Co_listPoisoners 20 = .ok (.iconst 0, 1) := by decide +kernel
theorem d_Co_listPoisoners_21 : decode zb_Co_listPoisoners 21 = .ok (.invokevirtual 36, 3) := by decide +kernel
theorem d_Co_listPoisoners_24 : decode zb_Co_listPoisoners 24 = .ok (.ifCond .ne 20, 3) := by decide +kernel
theorem d_Co_listPoisoners_27 : decode zb_Co_listPoisoners 27 = .ok (.aload_n 0, 1) := by decide +kernel
theorem d_Co_listPoisoners_28 : decode zb_Co_listPoisoners 28 = .ok (.getfield 16, 3) := by decide +kernel
theorem d_Co_listPoisoners_31 : decode zb_Co_listPoisoners 31 = .ok (.iload_n 3, 1) := by decide +kernel
theorem d_Co_listPoisoners_32 : decode zb_Co_listPoisoners 32 = .ok (.iconst 1, 1) := by decide +kernel
theorem d_Co_listPoisoners_33 : decode zb_Co_listPoisoners 33 = .ok (.invokevirtual 36, 3) := by decide +kernel
theorem d_Co_listPoisoners_36 : decode zb_Co_listPoisoners 36 = .ok (.iload_n 1, 1) := by decide +kernel
theorem d_Co_listPoisoners_37 : decode zb_Co_listPoisoners 37 = .ok (.if_icmp .ne 7, 3) := by decide +kernel
theorem d_Co_listPoisoners_40 : decode zb_Co_listPoisoners 40 = .ok (.iconst 1, 1) := by decide +kernel
theorem d_Co_listPoisoners_41 : decode zb_Co_listPoisoners 41 = .ok (.goto 4, 3) := by decide +kernel
theorem d_Co_listPoisoners_44 : decode zb_Co_listPoisoners 44 = .ok (.iconst 0, 1) := by decide +kernel
theorem d_Co_listPoisoners_45 : decode zb_Co_listPoisoners 45 = .ok (.istore 4, 2) := by decide +kernel
theorem d_Co_listPoisoners_47 : decode zb_Co_listPoisoners 47 = .ok (.iload 4, 2) := by decide +kernel
theorem d_Co_listPoisoners_49 : decode zb_Co_listPoisoners 49 = .ok (.ifCond .eq 30, 3) := by decide +kernel
theorem d_Co_listPoisoners_52 : decode zb_Co_listPoisoners 52 = .ok (.iload_n 2, 1) := by decide +kernel
theorem d_Co_listPoisoners_53 : decode zb_Co_listPoisoners 53 = .ok (.aload_n 0, 1) := by decide +kernel
theorem d_Co_listPoisoners_54 : decode zb_Co_listPoisoners 54 = .ok (.getfield 20, 3) := by decide +kernel
theorem d_Co_listPoisoners_57 : decode zb_Co_listPoisoners 57 = .ok (.arraylength, 1) := by decide +kernel
theorem d_Co_listPoisoners_58 : decode zb_Co_listPoisoners 58 = .ok (.if_icmp .ge 21, 3) := by decide +kernel
theorem d_Co_listPoisoners_61 : decode zb_Co_listPoisoners 61 = .ok (.aload_n 0, 1) := by decide +kernel
theorem d_Co_listPoisoners_62 : decode zb_Co_listPoisoners 62 = .ok (.getfield 20, 3) := by decide +kernel
theorem d_Co_listPoisoners_65 : decode zb_Co_listPoisoners 65 = .ok (.iload_n 2, 1) := by decide +kernel
theorem d_Co_listPoisoners_66 : decode zb_Co_listPoisoners 66 = .ok (.aload_n 0, 1) := by decide +kernel
theorem d_Co_listPoisoners_67 : decode zb_Co_listPoisoners 67 = .ok (.getfield 16, 3) := by decide +kernel
theorem d_Co_listPoisoners_70 : decode zb_Co_listPoisoners 70 = .ok (.iload_n 3, 1) := by decide +kernel
theorem d_Co_listPoisoners_71 : decode zb_Co_listPoisoners 71 = .ok (.iconst 2, 1) := by decide +kernel
theorem d_Co_listPoisoners_72 : decode zb_Co_listPoisoners 72 = .ok (.invokevirtual 36, 3) := by decide +kernel
theorem d_Co_listPoisoners_75 : decode zb_Co_listPoisoners 75 = .ok (.iastore, 1) := by decide +kernel
theorem d_Co_listPoisoners_76 : decode zb_Co_listPoisoners 76 = .ok (.iinc 2 1, 3) := by decide +kernel
theorem d_Co_listPoisoners_79 : decode zb_Co_listPoisoners 79 = .ok (.iinc 3 1, 3) := by decide +kernel
theorem d_Co_listPoisoners_82 : decode zb_Co_listPoisoners 82 = .ok (.goto (-78), 3) := by decide +kernel
theorem d_Co_listPoisoners_85 : decode zb_Co_listPoisoners 85 = .ok (.iload_n 2, 1) := by decide +kernel
theorem d_Co_listPoisoners_86 : decode zb_Co_listPoisoners 86 = .ok (.ireturn, 1) := by decide +kernel
def k_Co_listPoisoners_45 (l1 : Int32) (kf_4 : Int32 → Int32 → zsC → Option (Int32 × zsC)) (l2 : Int32) (l3 : Int32) (s0 : Int32) (x : zsC) : Option (Int32 × zsC) := (if s0 = 0 then kf_4 l2 ((l3 + (1 : Int32))) x else (if l2 < (8 : Int32) then (k_Ta_get 6 2304 x.2.1 l3 ((2 : Int32))).bind fun o7 => (if zOut l2 8 then none else kf_4 ((l2 + (1 : Int32))) ((l3 + (1 : Int32))) ((x.1, x.2.1, (upd x.2.2 l2.toNatClampNeg o7)))) else kf_4 l2 ((l3 + (1 : Int32))) x))
set_option maxRecDepth 20000 in
theorem w_Co_listPoisoners_45 {X : zX} {c : zY} {q : Nat → Nat} {l1 : Int32} {out : Int32 × zsC} {kf_4 : Int32 → Int32 → zsC → Option (Int32 × zsC)} (hX : Ok X zr_Co zb_Co_listPoisoners 5 1 c) (hR : Rt X (some .int) (some (.int out.1)) (zwC c q out.2)) (hk_4 : ∀ (l2 : Int32) (l3 : Int32) (x : zsC), kf_4 l2 l3 x = some out → Go X (zwC c q x) [(0, .ref ((q 2))), (1, .int l1), (2, .int l2), (3, .int l3)] 4 []) : ∀ (l2 : Int32) (l3 : Int32) (s0 : Int32) (x : zsC), k_Co_listPoisoners_45 l1 kf_4 l2 l3 s0 x = some out → Go X (zwC c q x) [(0, .ref ((q 2))), (1, .int l1), (2, .int l2), (3, .int l3)] 45 [.int s0] := by
  intro l2 l3 s0 x h
  rw [k_Co_listPoisoners_45] at h
  refine g_istore (pc := 45) (L' := [(4, .int s0), (0, .ref ((q 2))), (1, .int l1), (2, .int l2), (3, .int l3)]) hX d_Co_listPoisoners_45 rfl rfl ?_
  refine g_iload (pc := 47) hX d_Co_listPoisoners_47 0 rfl ?_
  refine g_if_eq (pc := 49) (tgt := 79) hX d_Co_listPoisoners_49 (by decide) h (fun c5 h => ?_) (fun c5 h => ?_)
  · refine g_iinc (pc := 79) (q := 4) (L' := [(3, .int ((l3 + (1 : Int32)))), (4, .int s0), (0, .ref ((q 2))), (1, .int l1), (2, .int l2)]) hX d_Co_listPoisoners_79 rfl zc_1 rfl rfl ?_
    refine g_goto (pc := 82) (tgt := 4) hX d_Co_listPoisoners_82 (by decide) ?_
    refine g_ls (L' := [(0, .ref ((q 2))), (1, .int l1), (2, .int l2), (3, .int ((l3 + (1 : Int32))))]) [2, 3, 4, 0] rfl ?_
    exact hk_4 _ _ _ h
  · refine g_iload_n (pc := 52) hX d_Co_listPoisoners_52 rfl 3 rfl ?_
    refine g_aload_n (pc := 53) hX d_Co_listPoisoners_53 rfl 1 rfl ?_
    refine gf_Co_20 (pc := 54) (v := .ref ((q 5))) hX 2 rfl rfl d_Co_listPoisoners_54 ?_
    refine g_alen (pc := 57) (v := (8 : Int32)) hX 5 rfl rfl d_Co_listPoisoners_57 ?_
    refine g_icmp_ge (pc := 58) (tgt := 79) hX d_Co_listPoisoners_58 (by decide) h (fun c6 h => ?_) (fun c6 h => ?_)
    · refine g_iinc (pc := 79) (q := 4) (L' := [(3, .int ((l3 + (1 : Int32)))), (4, .int s0), (0, .ref ((q 2))), (1, .int l1), (2, .int l2)]) hX d_Co_listPoisoners_79 rfl zc_1 rfl rfl ?_
      refine g_goto (pc := 82) (tgt := 4) hX d_Co_listPoisoners_82 (by decide) ?_
      refine g_ls (L' := [(0, .ref ((q 2))), (1, .int l1), (2, .int l2), (3, .int ((l3 + (1 : Int32))))]) [2, 3, 4, 0] rfl ?_
      exact hk_4 _ _ _ h
    · refine g_aload_n (pc := 61) hX d_Co_listPoisoners_61 rfl 1 rfl ?_
      refine gf_Co_20 (pc := 62) (v := .ref ((q 5))) hX 2 rfl rfl d_Co_listPoisoners_62 ?_
      refine g_iload_n (pc := 65) hX d_Co_listPoisoners_65 rfl 3 rfl ?_
      refine g_aload_n (pc := 66) hX d_Co_listPoisoners_66 rfl 1 rfl ?_
      refine gf_Co_16 (pc := 67) (v := .ref ((q 3))) hX 2 rfl rfl d_Co_listPoisoners_67 ?_
      refine g_iload_n (pc := 70) hX d_Co_listPoisoners_70 rfl 4 rfl ?_
      refine g_iconst (pc := 71) hX d_Co_listPoisoners_71 zc_2 ?_
      obtain ⟨o7, e7, h⟩ := zbind h
      refine g_cvI (pc := 72)  (st := [.int l2, .ref ((q 5))]) (w' := (zwC c q x)) hX zk_Ta_get zs_Ta_get zL_Co_36 (c_Ta_get c (q 3) (q 4) 6 2304 x.2.1 l3 ((2 : Int32)) e7) rfl rfl rfl rfl (sp_Co_Ta_3 c q x) (sp_Co_Ta_3 c q x).symm 3 6 rfl rfl rfl d_Co_listPoisoners_72 ?_
      refine g_iast (pc := 75) (f := x.2.2) (w' := (zwC c q ((x.1, x.2.1, (upd x.2.2 l2.toNatClampNeg o7))))) hX 5 rfl h (sa_Co_5 c q x (upd x.2.2 l2.toNatClampNeg o7)) d_Co_listPoisoners_75 (fun h => ?_)
      refine g_iinc (pc := 76) (q := 3) (L' := [(2, .int ((l2 + (1 : Int32)))), (4, .int s0), (0, .ref ((q 2))), (1, .int l1), (3, .int l3)]) hX d_Co_listPoisoners_76 rfl zc_1 rfl rfl ?_
      refine g_iinc (pc := 79) (q := 4) (L' := [(3, .int ((l3 + (1 : Int32)))), (2, .int ((l2 + (1 : Int32)))), (4, .int s0), (0, .ref ((q 2))), (1, .int l1)]) hX d_Co_listPoisoners_79 rfl zc_1 rfl rfl ?_
      refine g_goto (pc := 82) (tgt := 4) hX d_Co_listPoisoners_82 (by decide) ?_
      refine g_ls (L' := [(0, .ref ((q 2))), (1, .int l1), (2, .int ((l2 + (1 : Int32)))), (3, .int ((l3 + (1 : Int32))))]) [3, 4, 1, 0] rfl ?_
      exact hk_4 _ _ _ h
def k_Co_listPoisoners_4 (l1 : Int32) : Nat → Int32 → Int32 → zsC → Option (Int32 × zsC)
  | 0, _, _, _ => none
  | fu + 1, l2, l3, x => (k_Ta_used 6 2304 x.2.1).bind fun o1 => (if l3 < o1 then (k_Ta_get 6 2304 x.2.1 l3 ((0 : Int32))).bind fun o3 => (if o3 = 0 then (k_Ta_get 6 2304 x.2.1 l3 ((1 : Int32))).bind fun o8 => (if o8 = l1 then k_Co_listPoisoners_45 l1 (k_Co_listPoisoners_4 l1 fu) l2 l3 ((1 : Int32)) x else k_Co_listPoisoners_45 l1 (k_Co_listPoisoners_4 l1 fu) l2 l3 ((0 : Int32)) x) else k_Co_listPoisoners_45 l1 (k_Co_listPoisoners_4 l1 fu) l2 l3 ((0 : Int32)) x) else some (l2, x))
set_option maxRecDepth 20000 in
theorem w_Co_listPoisoners_4 {X : zX} {c : zY} {q : Nat → Nat} {l1 : Int32} {out : Int32 × zsC} (hX : Ok X zr_Co zb_Co_listPoisoners 5 1 c) (hR : Rt X (some .int) (some (.int out.1)) (zwC c q out.2)) : ∀ (fu : Nat) (l2 : Int32) (l3 : Int32) (x : zsC), k_Co_listPoisoners_4 l1 fu l2 l3 x = some out → Go X (zwC c q x) [(0, .ref ((q 2))), (1, .int l1), (2, .int l2), (3, .int l3)] 4 [] := by
  intro fu
  induction fu with
  | zero => intro l2 l3 x h; rw [k_Co_listPoisoners_4] at h; cases h
  | succ fu ih =>
    intro l2 l3 x h
    rw [k_Co_listPoisoners_4] at h
    refine g_iload_n (pc := 4) hX d_Co_listPoisoners_4 rfl 3 rfl ?_
    refine g_aload_n (pc := 5) hX d_Co_listPoisoners_5 rfl 0 rfl ?_
    refine gf_Co_16 (pc := 6) (v := .ref ((q 3))) hX 2 rfl rfl d_Co_listPoisoners_6 ?_
    obtain ⟨o1, e1, h⟩ := zbind h
    refine g_cvI (pc := 9)  (st := [.int l3]) (w' := (zwC c q x)) hX zk_Ta_used zs_Ta_used zL_Co_28 (c_Ta_used c (q 3) (q 4) 6 2304 x.2.1 e1) rfl rfl rfl rfl (sp_Co_Ta_3 c q x) (sp_Co_Ta_3 c q x).symm 3 6 rfl rfl rfl d_Co_listPoisoners_9 ?_
    refine g_icmp_ge (pc := 12) (tgt := 85) hX d_Co_listPoisoners_12 (by decide) h (fun c2 h => ?_) (fun c2 h => ?_)
    · refine g_iload_n (pc := 85) hX d_Co_listPoisoners_85 rfl 2 rfl ?_
      obtain rfl := Option.some.inj h
      exact g_iret (pc := 86) hX hR d_Co_listPoisoners_86
    · refine g_aload_n (pc := 15) hX d_Co_listPoisoners_15 rfl 0 rfl ?_
      refine gf_Co_16 (pc := 16) (v := .ref ((q 3))) hX 2 rfl rfl d_Co_listPoisoners_16 ?_
      refine g_iload_n (pc := 19) hX d_Co_listPoisoners_19 rfl 3 rfl ?_
      refine g_iconst (pc := 20) hX d_Co_listPoisoners_20 zc_0 ?_
      obtain ⟨o3, e3, h⟩ := zbind h
      refine g_cvI (pc := 21)  (st := []) (w' := (zwC c q x)) hX zk_Ta_get zs_Ta_get zL_Co_36 (c_Ta_get c (q 3) (q 4) 6 2304 x.2.1 l3 ((0 : Int32)) e3) rfl rfl rfl rfl (sp_Co_Ta_3 c q x) (sp_Co_Ta_3 c q x).symm 3 6 rfl rfl rfl d_Co_listPoisoners_21 ?_
      refine g_if_ne (pc := 24) (tgt := 44) hX d_Co_listPoisoners_24 (by decide) h (fun c4 h => ?_) (fun c4 h => ?_)
      · refine g_iconst (pc := 44) hX d_Co_listPoisoners_44 zc_0 ?_
        exact w_Co_listPoisoners_45 hX hR ih _ _ _ _ h
      · refine g_aload_n (pc := 27) hX d_Co_listPoisoners_27 rfl 0 rfl ?_
        refine gf_Co_16 (pc := 28) (v := .ref ((q 3))) hX 2 rfl rfl d_Co_listPoisoners_28 ?_
        refine g_iload_n (pc := 31) hX d_Co_listPoisoners_31 rfl 3 rfl ?_
        refine g_iconst (pc := 32) hX d_Co_listPoisoners_32 zc_1 ?_
        obtain ⟨o8, e8, h⟩ := zbind h
        refine g_cvI (pc := 33)  (st := []) (w' := (zwC c q x)) hX zk_Ta_get zs_Ta_get zL_Co_36 (c_Ta_get c (q 3) (q 4) 6 2304 x.2.1 l3 ((1 : Int32)) e8) rfl rfl rfl rfl (sp_Co_Ta_3 c q x) (sp_Co_Ta_3 c q x).symm 3 6 rfl rfl rfl d_Co_listPoisoners_33 ?_
        refine g_iload_n (pc := 36) hX d_Co_listPoisoners_36 rfl 1 rfl ?_
        refine g_icmp_ne (pc := 37) (tgt := 44) hX d_Co_listPoisoners_37 (by decide) h (fun c9 h => ?_) (fun c9 h => ?_)
        · refine g_iconst (pc := 44) hX d_Co_listPoisoners_44 zc_0 ?_
          exact w_Co_listPoisoners_45 hX hR ih _ _ _ _ h
        · refine g_iconst (pc := 40) hX d_Co_listPoisoners_40 zc_1 ?_
          refine g_goto (pc := 41) (tgt := 45) hX d_Co_listPoisoners_41 (by decide) ?_
          exact w_Co_listPoisoners_45 hX hR ih _ _ _ _ h
def k_Co_listPoisoners (x : zsC) (l1 : Int32) : Option (Int32 × zsC) := k_Co_listPoisoners_4 l1 zFu ((0 : Int32)) ((0 : Int32)) x
set_option maxRecDepth 20000 in
theorem c_Co_listPoisoners (c : zY) (q : Nat → Nat) (x : zsC) (l1 : Int32) {out : Int32 × zsC} (h : k_Co_listPoisoners x l1 = some out) : KM zy_Co_listPoisoners zb_Co_listPoisoners 5 (some .int) 1 c [.ref ((q 2)), .int l1] (zwC c q x) (zwC c q out.2) (some (.int out.1)) := zK_of zp_Co rfl (Nat.le_of_ble_eq_true rfl) (zq_Co c q _ _) (fun X hX hR => by
  show Go X (zwC c q x) [(0, .ref ((q 2))), (1, .int l1)] 0 []
  rw [k_Co_listPoisoners] at h
  refine g_iconst (pc := 0) hX d_Co_listPoisoners_0 zc_0 ?_
  refine g_istore_n (pc := 1) (L' := [(2, .int ((0 : Int32))), (0, .ref ((q 2))), (1, .int l1)]) hX d_Co_listPoisoners_1 rfl rfl rfl ?_
  refine g_iconst (pc := 2) hX d_Co_listPoisoners_2 zc_0 ?_
  refine g_istore_n (pc := 3) (L' := [(3, .int ((0 : Int32))), (2, .int ((0 : Int32))), (0, .ref ((q 2))), (1, .int l1)]) hX d_Co_listPoisoners_3 rfl rfl rfl ?_
  refine g_ls (L' := [(0, .ref ((q 2))), (1, .int l1), (2, .int ((0 : Int32))), (3, .int ((0 : Int32)))]) [2, 3, 1, 0] rfl ?_
  exact w_Co_listPoisoners_4 hX hR _ _ _ _ h)
theorem d_Co_poisonBy_0 : decode zb_Co_poisonBy 0 = .ok (.iload_n 1, 1) := by decide +kernel
theorem d_Co_poisonBy_1 : decode zb_Co_poisonBy 1 = .ok (.ifCond .lt 16, 3) := by decide +kernel
theorem d_Co_poisonBy_4 : decode zb_Co_poisonBy 4 = .ok (.iload_n 1, 1) := by decide +kernel
theorem d_Co_poisonBy_5 : decode zb_Co_poisonBy 5 = .ok (.aload_n 0, 1) := by decide +kernel
theorem d_Co_poisonBy_6 : decode zb_Co_poisonBy 6 = .ok (.getfield 20, 3) := by decide +kernel
theorem d_Co_poisonBy_9 : decode zb_Co_poisonBy 9 = .ok (.arraylength, 1) := by decide +kernel
theorem d_Co_poisonBy_10 : decode zb_Co_poisonBy 10 = .ok (.if_icmp .ge 7, 3) := by decide +kernel
theorem d_Co_poisonBy_13 : decode zb_Co_poisonBy 13 = .ok (.iconst 1, 1) := by decide +kernel
theorem d_Co_poisonBy_14 : decode zb_Co_poisonBy 14 = .ok (.goto 4, 3) := by decide +kernel
theorem d_Co_poisonBy_17 : decode zb_Co_poisonBy 17 = .ok (.iconst 0, 1) := by decide +kernel
theorem d_Co_poisonBy_18 : decode zb_Co_poisonBy 18 = .ok (.istore_n 3, 1) := by decide +kernel
theorem d_Co_poisonBy_19 : decode zb_Co_poisonBy 19 = .ok (.iload_n 3, 1) := by decide +kernel
theorem d_Co_poisonBy_20 : decode zb_Co_poisonBy 20 = .ok (.ifCond .eq 26, 3) := by decide +kernel
theorem d_Co_poisonBy_23 : decode zb_Co_poisonBy 23 = .ok (.aload_n 0, 1) := by decide +kernel
theorem d_Co_poisonBy_24 : decode zb_Co_poisonBy 24 = .ok (.getfield 16, 3) := by decide +kernel
theorem d_Co_poisonBy_27 : decode zb_Co_poisonBy 27 = .ok (.aload_n 0, 1) := by decide +kernel
theorem d_Co_poisonBy_28 : decode zb_Co_poisonBy 28 = .ok (.iconst 0, 1) := by decide +kernel
theorem d_Co_poisonBy_29 : decode zb_Co_poisonBy 29 = .ok (.iload_n 2, 1) := by decide +kernel
theorem d_Co_poisonBy_30 : decode zb_Co_poisonBy 30 = .ok (.aload_n 0, 1) := by decide +kernel
theorem d_Co_poisonBy_31 : decode zb_Co_poisonBy 31 = .ok (.getfield 20, 3) := by decide +kernel
theorem d_Co_poisonBy_34 : decode zb_Co_poisonBy 34 = .ok (.iload_n 1, 1) := by decide +kernel
theorem d_Co_poisonBy_35 : decode zb_Co_poisonBy 35 = .ok (.iaload, 1) := by decide +kernel
theorem d_Co_poisonBy_36 : decode zb_Co_poisonBy 36 = .ok (.invokevirtual 40, 3) := by decide +kernel
theorem d_Co_poisonBy_39 : decode zb_Co_poisonBy 39 = .ok (.iconst 3, 1) := by decide +kernel
theorem d_Co_poisonBy_40 : decode zb_Co_poisonBy 40 = .ok (.invokevirtual 36, 3) := by decide +kernel
theorem d_Co_poisonBy_43 : decode zb_Co_poisonBy 43 = .ok (.goto 4, 3) := by decide +kernel
theorem d_Co_poisonBy_46 : decode zb_Co_poisonBy 46 = .ok (.iconst 0, 1) := by decide +kernel
theorem d_Co_poisonBy_47 : decode zb_Co_poisonBy 47 = .ok (.ireturn, 1) := by decide +kernel
def k_Co_poisonBy_18 (x : zsC) (l1 : Int32) (l2 : Int32) (s0 : Int32) : Option (Int32) := (if s0 = 0 then some ((0 : Int32)) else (if zOut l1 8 then none else (k_Co_find x ((0 : Int32)) l2 ((x.2.2 l1.toNatClampNeg))).bind fun o3 => (k_Ta_get 6 2304 x.2.1 o3 ((3 : Int32))).bind fun o4 => some o4))
set_option maxRecDepth 20000 in
theorem w_Co_poisonBy_18 {X : zX} {c : zY} {q : Nat → Nat} {x : zsC} {l1 : Int32} {l2 : Int32} {out : Int32} (hX : Ok X zr_Co zb_Co_poisonBy 4 2 c) (hR : Rt X (some .int) (some (.int out)) (zwC c q x)) : ∀ (s0 : Int32), k_Co_poisonBy_18 x l1 l2 s0 = some out → Go X (zwC c q x) [(0, .ref ((q 2))), (1, .int l1), (2, .int l2)] 18 [.int s0] := by
  intro s0 h
  rw [k_Co_poisonBy_18] at h
  refine g_istore_n (pc := 18) (L' := [(3, .int s0), (0, .ref ((q 2))), (1, .int l1), (2, .int l2)]) hX d_Co_poisonBy_18 rfl rfl rfl ?_
  refine g_iload_n (pc := 19) hX d_Co_poisonBy_19 rfl 0 rfl ?_
  refine g_if_eq (pc := 20) (tgt := 46) hX d_Co_poisonBy_20 (by decide) h (fun c2 h => ?_) (fun c2 h => ?_)
  · refine g_iconst (pc := 46) hX d_Co_poisonBy_46 zc_0 ?_
    obtain rfl := Option.some.inj h
    exact g_iret (pc := 47) hX hR d_Co_poisonBy_47
  · refine g_aload_n (pc := 23) hX d_Co_poisonBy_23 rfl 1 rfl ?_
    refine gf_Co_16 (pc := 24) (v := .ref ((q 3))) hX 2 rfl rfl d_Co_poisonBy_24 ?_
    refine g_aload_n (pc := 27) hX d_Co_poisonBy_27 rfl 1 rfl ?_
    refine g_iconst (pc := 28) hX d_Co_poisonBy_28 zc_0 ?_
    refine g_iload_n (pc := 29) hX d_Co_poisonBy_29 rfl 3 rfl ?_
    refine g_aload_n (pc := 30) hX d_Co_poisonBy_30 rfl 1 rfl ?_
    refine gf_Co_20 (pc := 31) (v := .ref ((q 5))) hX 2 rfl rfl d_Co_poisonBy_31 ?_
    refine g_iload_n (pc := 34) hX d_Co_poisonBy_34 rfl 2 rfl ?_
    refine g_iald (pc := 35) (f := x.2.2) hX 5 rfl h d_Co_poisonBy_35 (fun h => ?_)
    obtain ⟨o3, e3, h⟩ := zbind h
    refine g_cvI (pc := 36) (w1 := []) (w2 := []) (st := [.ref ((q 3))]) (w' := (zwC c q x)) hX zk_Co_find zs_Co_find zL_Co_40 (c_Co_find c q x ((0 : Int32)) l2 ((x.2.2 l1.toNatClampNeg)) e3) rfl rfl rfl rfl (zself _) (zself _).symm 2 1 rfl rfl rfl d_Co_poisonBy_36 ?_
    refine g_iconst (pc := 39) hX d_Co_poisonBy_39 zc_3 ?_
    obtain ⟨o4, e4, h⟩ := zbind h
    refine g_cvI (pc := 40)  (st := []) (w' := (zwC c q x)) hX zk_Ta_get zs_Ta_get zL_Co_36 (c_Ta_get c (q 3) (q 4) 6 2304 x.2.1 o3 ((3 : Int32)) e4) rfl rfl rfl rfl (sp_Co_Ta_3 c q x) (sp_Co_Ta_3 c q x).symm 3 6 rfl rfl rfl d_Co_poisonBy_40 ?_
    refine g_goto (pc := 43) (tgt := 47) hX d_Co_poisonBy_43 (by decide) ?_
    obtain rfl := Option.some.inj h
    exact g_iret (pc := 47) hX hR d_Co_poisonBy_47
def k_Co_poisonBy (x : zsC) (l1 : Int32) (l2 : Int32) : Option (Int32) := (if l1 < 0 then k_Co_poisonBy_18 x l1 l2 ((0 : Int32)) else (if l1 < (8 : Int32) then k_Co_poisonBy_18 x l1 l2 ((1 : Int32)) else k_Co_poisonBy_18 x l1 l2 ((0 : Int32))))
set_option maxRecDepth 20000 in
theorem c_Co_poisonBy (c : zY) (q : Nat → Nat) (x : zsC) (l1 : Int32) (l2 : Int32) {out : Int32} (h : k_Co_poisonBy x l1 l2 = some out) : KM zy_Co_poisonBy zb_Co_poisonBy 4 (some .int) 2 c [.ref ((q 2)), .int l1, .int l2] (zwC c q x) (zwC c q x) (some (.int out)) := zK_of zp_Co rfl (Nat.le_of_ble_eq_true rfl) (zq_Co c q _ _) (fun X hX hR => by
  show Go X (zwC c q x) [(0, .ref ((q 2))), (1, .int l1), (2, .int l2)] 0 []
  rw [k_Co_poisonBy] at h
  refine g_iload_n (pc := 0) hX d_Co_poisonBy_0 rfl 1 rfl ?_
  refine g_if_lt (pc := 1) (tgt := 17) hX d_Co_poisonBy_1 (by decide) h (fun c1 h => ?_) (fun c1 h => ?_)
  · refine g_iconst (pc := 17) hX d_Co_poisonBy_17 zc_0 ?_
    exact w_Co_poisonBy_18 hX hR _ h
  · refine g_iload_n (pc := 4) hX d_Co_poisonBy_4 rfl 1 rfl ?_
    refine g_aload_n (pc := 5) hX d_Co_poisonBy_5 rfl 0 rfl ?_
    refine gf_Co_20 (pc := 6) (v := .ref ((q 5))) hX 2 rfl rfl d_Co_poisonBy_6 ?_
    refine g_alen (pc := 9) (v := (8 : Int32)) hX 5 rfl rfl d_Co_poisonBy_9 ?_
    refine g_icmp_ge (pc := 10) (tgt := 17) hX d_Co_poisonBy_10 (by decide) h (fun c5 h => ?_) (fun c5 h => ?_)
    · refine g_iconst (pc := 17) hX d_Co_poisonBy_17 zc_0 ?_
      exact w_Co_poisonBy_18 hX hR _ h
    · refine g_iconst (pc := 13) hX d_Co_poisonBy_13 zc_1 ?_
      refine g_goto (pc := 14) (tgt := 18) hX d_Co_poisonBy_14 (by decide) ?_
      exact w_Co_poisonBy_18 hX hR _ h)
theorem d_Co_endCounted_0 : decode zb_Co_endCounted 0 = .ok (.iconst 0, 1) := by decide +kernel
theorem d_Co_endCounted_1 : decode zb_Co_endCounted 1 = .ok (.istore_n 1, 1) := by decide +kernel
theorem d_Co_endCounted_2 : decode zb_Co_endCounted 2 = .ok (.iconst 0, 1) := by decide +kernel
theorem d_Co_endCounted_3 : decode zb_Co_endCounted 3 = .ok (.istore_n 2, 1) := by decide +kernel
theorem d_Co_endCounted_4 : decode zb_Co_endCounted 4 = .ok (.iload_n 2, 1) := by decide +kernel
theorem d_Co_endCounted_5 : decode zb_Co_endCounted 5 = .ok (.aload_n 0, 1) := by decide +kernel
theorem d_Co_endCounted_6 : decode zb_Co_endCounted 6 = .ok (.getfield 16, 3) := by decide +kernel
theorem d_Co_endCounted_9 : decode zb_Co_endCounted 9 = .ok (.invokevirtual 28, 3) := by decide +kernel
theorem d_Co_endCounted_12 : decode zb_Co_endCounted 12 = .ok (.if_icmp .ge 62, 3) := by decide +kernel
theorem d_Co_endCounted_15 : decode zb_Co_endCounted 15 = .ok (.aload_n 0, 1) := by decide +kernel
theorem d_Co_endCounted_16 : decode zb_Co_endCounted 16 = .ok (.getfield 16, 3) := by decide +kernel
theorem d_Co_endCounted_19 : decode zb_Co_endCounted 19 = .ok (.iload_n 2, 1) := by decide +kernel
theorem d_Co_endCounted_20 : decode zb_Co_endCounted 20 = .ok (.iconst 5, 1) := by decide +kernel
theorem d_Co_endCounted_21 : decode zb_Co_endCounted 21 = .ok (.invokevirtual 36, 3) := by decide +kernel
theorem d_Co_endCounted_24 : decode zb_Co_endCounted 24 = .ok (.ifCond .ne 32, 3) := by decide +kernel
theorem d_Co_endCounted_27 : decode zb_Co_endCounted 27 = .ok (.aload_n 0, 1) := by decide +kernel
theorem d_Co_endCounted_28 : decode zb_Co_endCounted 28 = .ok (.getfield 24, 3) := by decide +kernel
theorem d_Co_endCounted_31 : decode zb_Co_endCounted 31 = .ok (.iconst 4, 1) := by decide +kernel
theorem d_Co_endCounted_32 : decode zb_Co_endCounted 32 = .ok (.aload_n 0, 1) := by decide +kernel
theorem d_Co_endCounted_33 : decode zb_Co_endCounted 33 = .ok (.getfield 16, 3) := by decide +kernel
theorem d_Co_endCounted_36 : decode zb_Co_endCounted 36 = .ok (.iload_n 2, 1) := by decide +kernel
theorem d_Co_endCounted_37 : decode zb_Co_endCounted 37 = .ok (.iconst 1, 1) := by decide +kernel
theorem d_Co_endCounted_38 : decode zb_Co_endCounted 38 = .ok (.invokevirtual 36, 3) := by decide +kernel
theorem d_Co_endCounted_41 : decode zb_Co_endCounted 41 = .ok (.aload_n 0, 1) := by decide +kernel
theorem d_Co_endCounted_42 : decode zb_Co_endCounted 42 = .ok (.getfield 16, 3) := by decide +kernel
theorem d_Co_endCounted_45 : decode zb_Co_endCounted 45 = .ok (.iload_n 2, 1) := by decide +kernel
theorem d_Co_endCounted_46 : decode zb_Co_endCounted 46 = .ok (.iconst 0, 1) := by decide +kernel
theorem d_Co_endCounted_47 : decode zb_Co_endCounted 47 = .ok (.invokevirtual 36, 3) := by decide +kernel
theorem d_Co_endCounted_50 : decode zb_Co_endCounted 50 = .ok (.invokevirtual 55, 3) := by decide +kernel
theorem d_Co_endCounted_53 : decode zb_Co_endCounted 53 = .ok (.goto 15, 3) := by decide +kernel
theorem d_Co_endCounted_56 : decode zb_Co_endCounted 56 = .ok (.aload_n 0, 1) := by decide +kernel
theorem d_Co_endCounted_57 : decode zb_Co_endCounted 57 = .ok (.getfield 16, 3) := by decide +kernel
theorem d_Co_endCounted_60 : decode zb_Co_endCounted 60 = .ok (.iload_n 2, 1) := by decide +kernel
theorem d_Co_endCounted_61 : decode zb_Co_endCounted 61 = .ok (.iload_n 1, 1) := by decide +kernel
theorem d_Co_endCounted_62 : decode zb_Co_endCounted 62 = .ok (.invokevirtual 63, 3) := by decide +kernel
theorem d_Co_endCounted_65 : decode zb_Co_endCounted 65 = .ok (.iinc 1 1, 3) := by decide +kernel
theorem d_Co_endCounted_68 : decode zb_Co_endCounted 68 = .ok (.iinc 2 1, 3) := by decide +kernel
theorem d_Co_endCounted_71 : decode zb_Co_endCounted 71 = .ok (.goto (-67), 3) := by decide +kernel
theorem d_Co_endCounted_74 : decode zb_Co_endCounted 74 = .ok (.aload_n 0, 1) := by decide +kernel
theorem d_Co_endCounted_75 : decode zb_Co_endCounted 75 = .ok (.getfield 16, 3) := by decide +kernel
theorem d_Co_endCounted_78 : decode zb_Co_endCounted 78 = .ok (.iload_n 1, 1) := by decide +kernel
theorem d_Co_endCounted_79 : decode zb_Co_endCounted 79 = .ok (.invokevirtual 67, 3) := by decide +kernel
theorem d_Co_endCounted_82 : decode zb_Co_endCounted 82 = .ok (.return_, 1) := by decide +kernel
def k_Co_endCounted_4 : Nat → Int32 → Int32 → zsC → Option (zsC)
  | 0, _, _, _ => none
  | fu + 1, l1, l2, x => (k_Ta_used 6 2304 x.2.1).bind fun o1 => (if l2 < o1 then (k_Ta_get 6 2304 x.2.1 l2 ((5 : Int32))).bind fun o4 => (if o4 = 0 then (k_Ta_get 6 2304 x.2.1 l2 ((1 : Int32))).bind fun o7 => (k_Ta_get 6 2304 x.2.1 l2 ((0 : Int32))).bind fun o8 => (k_Jo_write x.1 ((4 : Int32)) o7 o8).bind fun o9 => k_Co_endCounted_4 fu l1 ((l2 + (1 : Int32))) ((o9, x.2.1, x.2.2)) else (k_Ta_copyRow 6 2304 x.2.1 l2 l1).bind fun o6 => k_Co_endCounted_4 fu ((l1 + (1 : Int32))) ((l2 + (1 : Int32))) ((x.1, o6, x.2.2))) else (k_Ta_cut 6 2304 x.2.1 l1).bind fun o3 => some ((x.1, o3, x.2.2)))
set_option maxRecDepth 20000 in
theorem w_Co_endCounted_4 {X : zX} {c : zY} {q : Nat → Nat} {out : zsC} (hX : Ok X zr_Co zb_Co_endCounted 3 2 c) (hR : Rt X none none (zwC c q out)) : ∀ (fu : Nat) (l1 : Int32) (l2 : Int32) (x : zsC), k_Co_endCounted_4 fu l1 l2 x = some out → Go X (zwC c q x) [(0, .ref ((q 2))), (1, .int l1), (2, .int l2)] 4 [] := by
  intro fu
  induction fu with
  | zero => intro l1 l2 x h; rw [k_Co_endCounted_4] at h; cases h
  | succ fu ih =>
    intro l1 l2 x h
    rw [k_Co_endCounted_4] at h
    refine g_iload_n (pc := 4) hX d_Co_endCounted_4 rfl 2 rfl ?_
    refine g_aload_n (pc := 5) hX d_Co_endCounted_5 rfl 0 rfl ?_
    refine gf_Co_16 (pc := 6) (v := .ref ((q 3))) hX 2 rfl rfl d_Co_endCounted_6 ?_
    obtain ⟨o1, e1, h⟩ := zbind h
    refine g_cvI (pc := 9)  (st := [.int l2]) (w' := (zwC c q x)) hX zk_Ta_used zs_Ta_used zL_Co_28 (c_Ta_used c (q 3) (q 4) 6 2304 x.2.1 e1) rfl rfl rfl rfl (sp_Co_Ta_3 c q x) (sp_Co_Ta_3 c q x).symm 3 6 rfl rfl rfl d_Co_endCounted_9 ?_
    refine g_icmp_ge (pc := 12) (tgt := 74) hX d_Co_endCounted_12 (by decide) h (fun c2 h => ?_) (fun c2 h => ?_)
    · refine g_aload_n (pc := 74) hX d_Co_endCounted_74 rfl 0 rfl ?_
      refine gf_Co_16 (pc := 75) (v := .ref ((q 3))) hX 2 rfl rfl d_Co_endCounted_75 ?_
      refine g_iload_n (pc := 78) hX d_Co_endCounted_78 rfl 1 rfl ?_
      obtain ⟨o3, e3, h⟩ := zbind h
      refine g_cvV (pc := 79)  (st := []) (w' := (zwC c q ((x.1, o3, x.2.2)))) hX zk_Ta_cut zs_Ta_cut zL_Co_67 (c_Ta_cut c (q 3) (q 4) 6 2304 x.2.1 l1 e3) rfl rfl rfl rfl (sp_Co_Ta_3 c q x) (sq_Co_Ta_3 c q x o3) 3 6 rfl rfl rfl d_Co_endCounted_79 ?_
      obtain rfl := Option.some.inj h
      exact g_vret (pc := 82) hX hR d_Co_endCounted_82
    · refine g_aload_n (pc := 15) hX d_Co_endCounted_15 rfl 0 rfl ?_
      refine gf_Co_16 (pc := 16) (v := .ref ((q 3))) hX 2 rfl rfl d_Co_endCounted_16 ?_
      refine g_iload_n (pc := 19) hX d_Co_endCounted_19 rfl 2 rfl ?_
      refine g_iconst (pc := 20) hX d_Co_endCounted_20 zc_5 ?_
      obtain ⟨o4, e4, h⟩ := zbind h
      refine g_cvI (pc := 21)  (st := []) (w' := (zwC c q x)) hX zk_Ta_get zs_Ta_get zL_Co_36 (c_Ta_get c (q 3) (q 4) 6 2304 x.2.1 l2 ((5 : Int32)) e4) rfl rfl rfl rfl (sp_Co_Ta_3 c q x) (sp_Co_Ta_3 c q x).symm 3 6 rfl rfl rfl d_Co_endCounted_21 ?_
      refine g_if_ne (pc := 24) (tgt := 56) hX d_Co_endCounted_24 (by decide) h (fun c5 h => ?_) (fun c5 h => ?_)
      · refine g_aload_n (pc := 56) hX d_Co_endCounted_56 rfl 0 rfl ?_
        refine gf_Co_16 (pc := 57) (v := .ref ((q 3))) hX 2 rfl rfl d_Co_endCounted_57 ?_
        refine g_iload_n (pc := 60) hX d_Co_endCounted_60 rfl 2 rfl ?_
        refine g_iload_n (pc := 61) hX d_Co_endCounted_61 rfl 1 rfl ?_
        obtain ⟨o6, e6, h⟩ := zbind h
        refine g_cvV (pc := 62)  (st := []) (w' := (zwC c q ((x.1, o6, x.2.2)))) hX zk_Ta_copyRow zs_Ta_copyRow zL_Co_63 (c_Ta_copyRow c (q 3) (q 4) 6 2304 x.2.1 l2 l1 e6) rfl rfl rfl rfl (sp_Co_Ta_3 c q x) (sq_Co_Ta_3 c q x o6) 3 6 rfl rfl rfl d_Co_endCounted_62 ?_
        refine g_iinc (pc := 65) (q := 1) (L' := [(1, .int ((l1 + (1 : Int32)))), (0, .ref ((q 2))), (2, .int l2)]) hX d_Co_endCounted_65 rfl zc_1 rfl rfl ?_
        refine g_iinc (pc := 68) (q := 2) (L' := [(2, .int ((l2 + (1 : Int32)))), (1, .int ((l1 + (1 : Int32)))), (0, .ref ((q 2)))]) hX d_Co_endCounted_68 rfl zc_1 rfl rfl ?_
        refine g_goto (pc := 71) (tgt := 4) hX d_Co_endCounted_71 (by decide) ?_
        refine g_ls (L' := [(0, .ref ((q 2))), (1, .int ((l1 + (1 : Int32)))), (2, .int ((l2 + (1 : Int32))))]) [2, 1, 0] rfl ?_
        exact ih _ _ _ h
      · refine g_aload_n (pc := 27) hX d_Co_endCounted_27 rfl 0 rfl ?_
        refine gf_Co_24 (pc := 28) (v := .ref ((q 0))) hX 2 rfl rfl d_Co_endCounted_28 ?_
        refine g_iconst (pc := 31) hX d_Co_endCounted_31 zc_4 ?_
        refine g_aload_n (pc := 32) hX d_Co_endCounted_32 rfl 0 rfl ?_
        refine gf_Co_16 (pc := 33) (v := .ref ((q 3))) hX 2 rfl rfl d_Co_endCounted_33 ?_
        refine g_iload_n (pc := 36) hX d_Co_endCounted_36 rfl 2 rfl ?_
        refine g_iconst (pc := 37) hX d_Co_endCounted_37 zc_1 ?_
        obtain ⟨o7, e7, h⟩ := zbind h
        refine g_cvI (pc := 38)  (st := [.int ((4 : Int32)), .ref ((q 0))]) (w' := (zwC c q x)) hX zk_Ta_get zs_Ta_get zL_Co_36 (c_Ta_get c (q 3) (q 4) 6 2304 x.2.1 l2 ((1 : Int32)) e7) rfl rfl rfl rfl (sp_Co_Ta_3 c q x) (sp_Co_Ta_3 c q x).symm 3 6 rfl rfl rfl d_Co_endCounted_38 ?_
        refine g_aload_n (pc := 41) hX d_Co_endCounted_41 rfl 0 rfl ?_
        refine gf_Co_16 (pc := 42) (v := .ref ((q 3))) hX 2 rfl rfl d_Co_endCounted_42 ?_
        refine g_iload_n (pc := 45) hX d_Co_endCounted_45 rfl 2 rfl ?_
        refine g_iconst (pc := 46) hX d_Co_endCounted_46 zc_0 ?_
        obtain ⟨o8, e8, h⟩ := zbind h
        refine g_cvI (pc := 47)  (st := [.int o7, .int ((4 : Int32)), .ref ((q 0))]) (w' := (zwC c q x)) hX zk_Ta_get zs_Ta_get zL_Co_36 (c_Ta_get c (q 3) (q 4) 6 2304 x.2.1 l2 ((0 : Int32)) e8) rfl rfl rfl rfl (sp_Co_Ta_3 c q x) (sp_Co_Ta_3 c q x).symm 3 6 rfl rfl rfl d_Co_endCounted_47 ?_
        obtain ⟨o9, e9, h⟩ := zbind h
        refine g_cvV (pc := 50)  (st := []) (w' := (zwC c q ((o9, x.2.1, x.2.2)))) hX zk_Jo_write zs_Jo_write zL_Co_55 (c_Jo_write c q x.1 ((4 : Int32)) o7 o8 e9) rfl rfl rfl rfl (sp_Co_Jo_0 c q x) (sq_Co_Jo_0 c q x o9) 0 4 rfl rfl rfl d_Co_endCounted_50 ?_
        refine g_goto (pc := 53) (tgt := 68) hX d_Co_endCounted_53 (by decide) ?_
        refine g_iinc (pc := 68) (q := 2) (L' := [(2, .int ((l2 + (1 : Int32)))), (0, .ref ((q 2))), (1, .int l1)]) hX d_Co_endCounted_68 rfl zc_1 rfl rfl ?_
        refine g_goto (pc := 71) (tgt := 4) hX d_Co_endCounted_71 (by decide) ?_
        refine g_ls (L' := [(0, .ref ((q 2))), (1, .int l1), (2, .int ((l2 + (1 : Int32))))]) [1, 2, 0] rfl ?_
        exact ih _ _ _ h
def k_Co_endCounted (x : zsC) : Option (zsC) := k_Co_endCounted_4 zFu ((0 : Int32)) ((0 : Int32)) x
set_option maxRecDepth 20000 in
theorem c_Co_endCounted (c : zY) (q : Nat → Nat) (x : zsC) {out : zsC} (h : k_Co_endCounted x = some out) : KM zy_Co_endCounted zb_Co_endCounted 3 none 2 c [.ref ((q 2))] (zwC c q x) (zwC c q out) none := zK_of zp_Co rfl (Nat.le_of_ble_eq_true rfl) (zq_Co c q _ _) (fun X hX hR => by
  show Go X (zwC c q x) [(0, .ref ((q 2)))] 0 []
  rw [k_Co_endCounted] at h
  refine g_iconst (pc := 0) hX d_Co_endCounted_0 zc_0 ?_
  refine g_istore_n (pc := 1) (L' := [(1, .int ((0 : Int32))), (0, .ref ((q 2)))]) hX d_Co_endCounted_1 rfl rfl rfl ?_
  refine g_iconst (pc := 2) hX d_Co_endCounted_2 zc_0 ?_
  refine g_istore_n (pc := 3) (L' := [(2, .int ((0 : Int32))), (1, .int ((0 : Int32))), (0, .ref ((q 2)))]) hX d_Co_endCounted_3 rfl rfl rfl ?_
  refine g_ls (L' := [(0, .ref ((q 2))), (1, .int ((0 : Int32))), (2, .int ((0 : Int32)))]) [2, 1, 0] rfl ?_
  exact w_Co_endCounted_4 hX hR _ _ _ _ h)
theorem d_Co_countTurnEnd_0 : decode zb_Co_countTurnEnd 0 = .ok (.iconst 0, 1) := by decide +kernel
theorem d_Co_countTurnEnd_1 : decode zb_Co_countTurnEnd 1 = .ok (.istore_n 2, 1) := by decide +kernel
theorem d_Co_countTurnEnd_2 : decode zb_Co_countTurnEnd 2 = .ok (.iload_n 2, 1) := by decide +kernel
theorem d_Co_countTurnEnd_3 : decode zb_Co_countTurnEnd 3 = .ok (.aload_n 0, 1) := by decide +kernel
theorem d_Co_countTurnEnd_4 : decode zb_Co_countTurnEnd 4 = .ok (.getfield 16, 3) := by decide +kernel
theorem d_Co_countTurnEnd_7 : decode zb_Co_countTurnEnd 7 = .ok (.invokevirtual 28, 3) := by decide +kernel
theorem d_Co_countTurnEnd_10 : decode zb_Co_countTurnEnd 10 = .ok (.if_icmp .ge 54, 3) := by decide +kernel
theorem d_Co_countTurnEnd_13 : decode zb_Co_countTurnEnd 13 = .ok (.aload_n 0, 1) := by decide +kernel
theorem d_Co_countTurnEnd_14 : decode zb_Co_countTurnEnd 14 = .ok (.getfield 16, 3) := by decide +kernel
theorem d_Co_countTurnEnd_17 : decode zb_Co_countTurnEnd 17 = .ok (.iload_n 2, 1) := by decide +kernel
theorem d_Co_countTurnEnd_18 : decode zb_Co_countTurnEnd 18 = .ok (.iconst 1, 1) := by decide +kernel
theorem d_Co_countTurnEnd_19 : decode zb_Co_countTurnEnd 19 = .ok (.invokevirtual 36, 3) := by decide +kernel
theorem d_Co_countTurnEnd_22 : decode zb_Co_countTurnEnd 22 = .ok (.iload_n 1, 1) := by decide +kernel
theorem d_Co_countTurnEnd_23 : decode zb_Co_countTurnEnd 23 = .ok (.if_icmp .ne 35, 3) := by decide +kernel
theorem d_Co_countTurnEnd_26 : decode zb_Co_countTurnEnd 26 = .ok (.aload_n 0, 1) := by decide +kernel
theorem d_Co_countTurnEnd_27 : decode zb_Co_countTurnEnd 27 = .ok (.getfield 16, 3) := by decide +kernel
theorem d_Co_countTurnEnd_30 : decode zb_Co_countTurnEnd 30 = .ok (.iload_n 2, 1) := by decide +kernel
theorem d_Co_countTurnEnd_31 : decode zb_Co_countTurnEnd 31 = .ok (.iconst 4, 1) := by decide +kernel
theorem d_Co_countTurnEnd_32 : decode zb_Co_countTurnEnd 32 = .ok (.invokevirtual 36, 3) := by decide +kernel
theorem d_Co_countTurnEnd_35 : decode zb_Co_countTurnEnd 35 = .ok (.ifCond .ne 23, 3) := by decide +kernel
theorem d_Co_countTurnEnd_38 : decode zb_Co_countTurnEnd 38 = .ok (.aload_n 0, 1) := by decide +kernel
theorem d_Co_countTurnEnd_39 : decode zb_Co_countTurnEnd 39 = .ok (.getfield 16, 3) := by decide +kernel
theorem d_Co_countTurnEnd_42 : decode zb_Co_countTurnEnd 42 = .ok (.iload_n 2, 1) := by decide +kernel
theorem d_Co_countTurnEnd_43 : decode zb_Co_countTurnEnd 43 = .ok (.iconst 5, 1) := by decide +kernel
theorem d_Co_countTurnEnd_44 : decode zb_Co_countTurnEnd 44 = .ok (.aload_n 0, 1) := by decide +kernel
theorem d_Co_countTurnEnd_45 : decode zb_Co_countTurnEnd 45 = .ok (.getfield 16, 3) := by decide +kernel
theorem d_Co_countTurnEnd_48 : decode zb_Co_countTurnEnd 48 = .ok (.iload_n 2, 1) := by decide +kernel
theorem d_Co_countTurnEnd_49 : decode zb_Co_countTurnEnd 49 = .ok (.iconst 5, 1) := by decide +kernel
theorem d_Co_countTurnEnd_50 : decode zb_Co_countTurnEnd 50 = .ok (.invokevirtual 36, 3) := by decide +kernel
theorem d_Co_countTurnEnd_53 : decode zb_Co_countTurnEnd 53 = .ok (.iconst 1, 1) := by decide +kernel
theorem d_Co_countTurnEnd_54 : decode zb_Co_countTurnEnd 54 = .ok (.isub, 1) := by decide +kernel
theorem d_Co_countTurnEnd_55 : decode zb_Co_countTurnEnd 55 = .ok (.invokevirtual 47, 3) := by decide +kernel
theorem d_Co_countTurnEnd_58 : decode zb_Co_countTurnEnd 58 = .ok (.iinc 2 1, 3) := by decide +kernel
theorem d_Co_countTurnEnd_61 : decode zb_Co_countTurnEnd 61 = .ok (.goto (-59), 3) := by decide +kernel
theorem d_Co_countTurnEnd_64 : decode zb_Co_countTurnEnd 64 = .ok (.aload_n 0, 1) := by decide +kernel
theorem d_Co_countTurnEnd_65 : decode zb_Co_countTurnEnd 65 = .ok (.invokevirtual 60, 3) := by decide +kernel
theorem d_Co_countTurnEnd_68 : decode zb_Co_countTurnEnd 68 = .ok (.return_, 1) := by decide +kernel
def k_Co_countTurnEnd_2 (l1 : Int32) : Nat → Int32 → zsC → Option (zsC)
  | 0, _, _ => none
  | fu + 1, l2, x => (k_Ta_used 6 2304 x.2.1).bind fun o1 => (if l2 < o1 then (k_Ta_get 6 2304 x.2.1 l2 ((1 : Int32))).bind fun o4 => (if o4 = l1 then (k_Ta_get 6 2304 x.2.1 l2 ((4 : Int32))).bind fun o6 => (if o6 = 0 then (k_Ta_get 6 2304 x.2.1 l2 ((5 : Int32))).bind fun o8 => (k_Ta_set 6 2304 x.2.1 l2 ((5 : Int32)) ((o8 - (1 : Int32)))).bind fun o9 => k_Co_countTurnEnd_2 l1 fu ((l2 + (1 : Int32))) ((x.1, o9, x.2.2)) else k_Co_countTurnEnd_2 l1 fu ((l2 + (1 : Int32))) x) else k_Co_countTurnEnd_2 l1 fu ((l2 + (1 : Int32))) x) else (k_Co_endCounted x).bind fun o3 => some o3)
set_option maxRecDepth 20000 in
theorem w_Co_countTurnEnd_2 {X : zX} {c : zY} {q : Nat → Nat} {l1 : Int32} {out : zsC} (hX : Ok X zr_Co zb_Co_countTurnEnd 3 3 c) (hR : Rt X none none (zwC c q out)) : ∀ (fu : Nat) (l2 : Int32) (x : zsC), k_Co_countTurnEnd_2 l1 fu l2 x = some out → Go X (zwC c q x) [(0, .ref ((q 2))), (1, .int l1), (2, .int l2)] 2 [] := by
  intro fu
  induction fu with
  | zero => intro l2 x h; rw [k_Co_countTurnEnd_2] at h; cases h
  | succ fu ih =>
    intro l2 x h
    rw [k_Co_countTurnEnd_2] at h
    refine g_iload_n (pc := 2) hX d_Co_countTurnEnd_2 rfl 2 rfl ?_
    refine g_aload_n (pc := 3) hX d_Co_countTurnEnd_3 rfl 0 rfl ?_
    refine gf_Co_16 (pc := 4) (v := .ref ((q 3))) hX 2 rfl rfl d_Co_countTurnEnd_4 ?_
    obtain ⟨o1, e1, h⟩ := zbind h
    refine g_cvI (pc := 7)  (st := [.int l2]) (w' := (zwC c q x)) hX zk_Ta_used zs_Ta_used zL_Co_28 (c_Ta_used c (q 3) (q 4) 6 2304 x.2.1 e1) rfl rfl rfl rfl (sp_Co_Ta_3 c q x) (sp_Co_Ta_3 c q x).symm 3 6 rfl rfl rfl d_Co_countTurnEnd_7 ?_
    refine g_icmp_ge (pc := 10) (tgt := 64) hX d_Co_countTurnEnd_10 (by decide) h (fun c2 h => ?_) (fun c2 h => ?_)
    · refine g_aload_n (pc := 64) hX d_Co_countTurnEnd_64 rfl 0 rfl ?_
      obtain ⟨o3, e3, h⟩ := zbind h
      refine g_cvV (pc := 65) (w1 := []) (w2 := []) (st := []) (w' := (zwC c q o3)) hX zk_Co_endCounted zs_Co_endCounted zL_Co_60 (c_Co_endCounted c q x e3) rfl rfl rfl rfl (zself _) (zself _).symm 2 1 rfl rfl rfl d_Co_countTurnEnd_65 ?_
      obtain rfl := Option.some.inj h
      exact g_vret (pc := 68) hX hR d_Co_countTurnEnd_68
    · refine g_aload_n (pc := 13) hX d_Co_countTurnEnd_13 rfl 0 rfl ?_
      refine gf_Co_16 (pc := 14) (v := .ref ((q 3))) hX 2 rfl rfl d_Co_countTurnEnd_14 ?_
      refine g_iload_n (pc := 17) hX d_Co_countTurnEnd_17 rfl 2 rfl ?_
      refine g_iconst (pc := 18) hX d_Co_countTurnEnd_18 zc_1 ?_
      obtain ⟨o4, e4, h⟩ := zbind h
      refine g_cvI (pc := 19)  (st := []) (w' := (zwC c q x)) hX zk_Ta_get zs_Ta_get zL_Co_36 (c_Ta_get c (q 3) (q 4) 6 2304 x.2.1 l2 ((1 : Int32)) e4) rfl rfl rfl rfl (sp_Co_Ta_3 c q x) (sp_Co_Ta_3 c q x).symm 3 6 rfl rfl rfl d_Co_countTurnEnd_19 ?_
      refine g_iload_n (pc := 22) hX d_Co_countTurnEnd_22 rfl 1 rfl ?_
      refine g_icmp_ne (pc := 23) (tgt := 58) hX d_Co_countTurnEnd_23 (by decide) h (fun c5 h => ?_) (fun c5 h => ?_)
      · refine g_iinc (pc := 58) (q := 2) (L' := [(2, .int ((l2 + (1 : Int32)))), (0, .ref ((q 2))), (1, .int l1)]) hX d_Co_countTurnEnd_58 rfl zc_1 rfl rfl ?_
        refine g_goto (pc := 61) (tgt := 2) hX d_Co_countTurnEnd_61 (by decide) ?_
        refine g_ls (L' := [(0, .ref ((q 2))), (1, .int l1), (2, .int ((l2 + (1 : Int32))))]) [1, 2, 0] rfl ?_
        exact ih _ _ h
      · refine g_aload_n (pc := 26) hX d_Co_countTurnEnd_26 rfl 0 rfl ?_
        refine gf_Co_16 (pc := 27) (v := .ref ((q 3))) hX 2 rfl rfl d_Co_countTurnEnd_27 ?_
        refine g_iload_n (pc := 30) hX d_Co_countTurnEnd_30 rfl 2 rfl ?_
        refine g_iconst (pc := 31) hX d_Co_countTurnEnd_31 zc_4 ?_
        obtain ⟨o6, e6, h⟩ := zbind h
        refine g_cvI (pc := 32)  (st := []) (w' := (zwC c q x)) hX zk_Ta_get zs_Ta_get zL_Co_36 (c_Ta_get c (q 3) (q 4) 6 2304 x.2.1 l2 ((4 : Int32)) e6) rfl rfl rfl rfl (sp_Co_Ta_3 c q x) (sp_Co_Ta_3 c q x).symm 3 6 rfl rfl rfl d_Co_countTurnEnd_32 ?_
        refine g_if_ne (pc := 35) (tgt := 58) hX d_Co_countTurnEnd_35 (by decide) h (fun c7 h => ?_) (fun c7 h => ?_)
        · refine g_iinc (pc := 58) (q := 2) (L' := [(2, .int ((l2 + (1 : Int32)))), (0, .ref ((q 2))), (1, .int l1)]) hX d_Co_countTurnEnd_58 rfl zc_1 rfl rfl ?_
          refine g_goto (pc := 61) (tgt := 2) hX d_Co_countTurnEnd_61 (by decide) ?_
          refine g_ls (L' := [(0, .ref ((q 2))), (1, .int l1), (2, .int ((l2 + (1 : Int32))))]) [1, 2, 0] rfl ?_
          exact ih _ _ h
        · refine g_aload_n (pc := 38) hX d_Co_countTurnEnd_38 rfl 0 rfl ?_
          refine gf_Co_16 (pc := 39) (v := .ref ((q 3))) hX 2 rfl rfl d_Co_countTurnEnd_39 ?_
          refine g_iload_n (pc := 42) hX d_Co_countTurnEnd_42 rfl 2 rfl ?_
          refine g_iconst (pc := 43) hX d_Co_countTurnEnd_43 zc_5 ?_
          refine g_aload_n (pc := 44) hX d_Co_countTurnEnd_44 rfl 0 rfl ?_
          refine gf_Co_16 (pc := 45) (v := .ref ((q 3))) hX 2 rfl rfl d_Co_countTurnEnd_45 ?_
          refine g_iload_n (pc := 48) hX d_Co_countTurnEnd_48 rfl 2 rfl ?_
          refine g_iconst (pc := 49) hX d_Co_countTurnEnd_49 zc_5 ?_
          obtain ⟨o8, e8, h⟩ := zbind h
          refine g_cvI (pc := 50)  (st := [.int ((5 : Int32)), .int l2, .ref ((q 3))]) (w' := (zwC c q x)) hX zk_Ta_get zs_Ta_get zL_Co_36 (c_Ta_get c (q 3) (q 4) 6 2304 x.2.1 l2 ((5 : Int32)) e8) rfl rfl rfl rfl (sp_Co_Ta_3 c q x) (sp_Co_Ta_3 c q x).symm 3 6 rfl rfl rfl d_Co_countTurnEnd_50 ?_
          refine g_iconst (pc := 53) hX d_Co_countTurnEnd_53 zc_1 ?_
          refine g_isub (pc := 54) hX d_Co_countTurnEnd_54 ?_
          obtain ⟨o9, e9, h⟩ := zbind h
          refine g_cvV (pc := 55)  (st := []) (w' := (zwC c q ((x.1, o9, x.2.2)))) hX zk_Ta_set zs_Ta_set zL_Co_47 (c_Ta_set c (q 3) (q 4) 6 2304 x.2.1 l2 ((5 : Int32)) ((o8 - (1 : Int32))) e9) rfl rfl rfl rfl (sp_Co_Ta_3 c q x) (sq_Co_Ta_3 c q x o9) 3 6 rfl rfl rfl d_Co_countTurnEnd_55 ?_
          refine g_iinc (pc := 58) (q := 2) (L' := [(2, .int ((l2 + (1 : Int32)))), (0, .ref ((q 2))), (1, .int l1)]) hX d_Co_countTurnEnd_58 rfl zc_1 rfl rfl ?_
          refine g_goto (pc := 61) (tgt := 2) hX d_Co_countTurnEnd_61 (by decide) ?_
          refine g_ls (L' := [(0, .ref ((q 2))), (1, .int l1), (2, .int ((l2 + (1 : Int32))))]) [1, 2, 0] rfl ?_
          exact ih _ _ h
def k_Co_countTurnEnd (x : zsC) (l1 : Int32) : Option (zsC) := k_Co_countTurnEnd_2 l1 zFu ((0 : Int32)) x
set_option maxRecDepth 20000 in
theorem c_Co_countTurnEnd (c : zY) (q : Nat → Nat) (x : zsC) (l1 : Int32) {out : zsC} (h : k_Co_countTurnEnd x l1 = some out) : KM zy_Co_countTurnEnd zb_Co_countTurnEnd 3 none 3 c [.ref ((q 2)), .int l1] (zwC c q x) (zwC c q out) none := zK_of zp_Co rfl (Nat.le_of_ble_eq_true rfl) (zq_Co c q _ _) (fun X hX hR => by
  show Go X (zwC c q x) [(0, .ref ((q 2))), (1, .int l1)] 0 []
  rw [k_Co_countTurnEnd] at h
  refine g_iconst (pc := 0) hX d_Co_countTurnEnd_0 zc_0 ?_
  refine g_istore_n (pc := 1) (L' := [(2, .int ((0 : Int32))), (0, .ref ((q 2))), (1, .int l1)]) hX d_Co_countTurnEnd_1 rfl rfl rfl ?_
  refine g_ls (L' := [(0, .ref ((q 2))), (1, .int l1), (2, .int ((0 : Int32)))]) [1, 2, 0] rfl ?_
  exact w_Co_countTurnEnd_2 hX hR _ _ _ h)
theorem d_Co_countSourceTurn_0 : decode zb_Co_countSourceTurn 0 = .ok (.iconst 0, 1) := by decide +kernel
theorem d_Co_countSourceTurn_1 : decode zb_Co_countSourceTurn 1 = .ok (.istore_n 2, 1) := by decide +kernel
theorem d_Co_countSourceTurn_2 : decode zb_Co_countSourceTurn 2 = .ok (.iload_n 2, 1) := by decide +kernel
theorem d_Co_countSourceTurn_3 : decode zb_Co_countSourceTurn 3 = .ok (.aload_n 0, 1) := by decide +kernel
theorem d_Co_countSourceTurn_4 : decode zb_Co_countSourceTurn 4 = .ok (.getfield 16, 3) := by decide +kernel
theorem d_Co_countSourceTurn_7 : decode zb_Co_countSourceTurn 7 = .ok (.invokevirtual 28, 3) := by decide +kernel
theorem d_Co_countSourceTurn_10 : decode zb_Co_countSourceTurn 10 = .ok (.if_icmp .ge 55, 3) := by decide +kernel
theorem d_Co_countSourceTurn_13 : decode zb_Co_countSourceTurn 13 = .ok (.aload_n 0, 1) := by decide +kernel
theorem d_Co_countSourceTurn_14 : decode zb_Co_countSourceTurn 14 = .ok (.getfield 16, 3) := by decide +kernel
theorem d_Co_countSourceTurn_17 : decode zb_Co_countSourceTurn 17 = .ok (.iload_n 2, 1) := by decide +kernel
theorem d_Co_countSourceTurn_18 : decode zb_Co_countSourceTurn 18 = .ok (.iconst 2, 1) := by decide +kernel
theorem d_Co_countSourceTurn_19 : decode zb_Co_countSourceTurn 19 = .ok (.invokevirtual 36, 3) := by decide +kernel
theorem d_Co_countSourceTurn_22 : decode zb_Co_countSourceTurn 22 = .ok (.iload_n 1, 1) := by decide +kernel
theorem d_Co_countSourceTurn_23 : decode zb_Co_countSourceTurn 23 = .ok (.if_icmp .ne 36, 3) := by decide +kernel
theorem d_Co_countSourceTurn_26 : decode zb_Co_countSourceTurn 26 = .ok (.aload_n 0, 1) := by decide +kernel
theorem d_Co_countSourceTurn_27 : decode zb_Co_countSourceTurn 27 = .ok (.getfield 16, 3) := by decide +kernel
theorem d_Co_countSourceTurn_30 : decode zb_Co_countSourceTurn 30 = .ok (.iload_n 2, 1) := by decide +kernel
theorem d_Co_countSourceTurn_31 : decode zb_Co_countSourceTurn 31 = .ok (.iconst 4, 1) := by decide +kernel
theorem d_Co_countSourceTurn_32 : decode zb_Co_countSourceTurn 32 = .ok (.invokevirtual 36, 3) := by decide +kernel
theorem d_Co_countSourceTurn_35 : decode zb_Co_countSourceTurn 35 = .ok (.iconst 1, 1) := by decide +kernel
theorem d_Co_countSourceTurn_36 : decode zb_Co_countSourceTurn 36 = .ok (.if_icmp .ne 23, 3) := by decide +kernel
theorem d_Co_countSourceTurn_39 : decode zb_Co_countSourceTurn 39 = .ok (.aload_n 0, 1) := by decide +kernel
theorem d_Co_countSourceTurn_40 : decode zb_Co_countSourceTurn 40 = .ok (.getfield 16, 3) := by decide +kernel
theorem d_Co_countSourceTurn_43 : decode zb_Co_countSourceTurn 43 = .ok (.iload_n 2, 1) := by decide +kernel
theorem d_Co_countSourceTurn_44 : decode zb_Co_countSourceTurn 44 = .ok (.iconst 5, 1) := by decide +kernel
theorem d_Co_countSourceTurn_45 : decode zb_Co_countSourceTurn 45 = .ok (.aload_n 0, 1) := by decide +kernel
theorem d_Co_countSourceTurn_46 : decode zb_Co_countSourceTurn 46 = .ok (.getfield 16, 3) := by decide +kernel
theorem d_Co_countSourceTurn_49 : decode zb_Co_countSourceTurn 49 = .ok (.iload_n 2, 1) := by decide +kernel
theorem d_Co_countSourceTurn_50 : decode zb_Co_countSourceTurn 50 = .ok (.iconst 5, 1) := by decide +kernel
theorem d_Co_countSourceTurn_51 : decode zb_Co_countSourceTurn 51 = .ok (.invokevirtual 36, 3) := by decide +kernel
theorem d_Co_countSourceTurn_54 : decode zb_Co_countSourceTurn 54 = .ok (.iconst 1, 1) := by decide +kernel
theorem d_Co_countSourceTurn_55 : decode zb_Co_countSourceTurn 55 = .ok (.isub, 1) := by decide +kernel
theorem d_Co_countSourceTurn_56 : decode zb_Co_countSourceTurn 56 = .ok (.invokevirtual 47, 3) := by decide +kernel
theorem d_Co_countSourceTurn_59 : decode zb_Co_countSourceTurn 59 = .ok (.iinc 2 1, 3) := by decide +kernel
theorem d_Co_countSourceTurn_62 : decode zb_Co_countSourceTurn 62 = .ok (.goto (-60), 3) := by decide +kernel
theorem d_Co_countSourceTurn_65 : decode zb_Co_countSourceTurn 65 = .ok (.aload_n 0, 1) := by decide +kernel
theorem d_Co_countSourceTurn_66 : decode zb_Co_countSourceTurn 66 = .ok (.invokevirtual 60, 3) := by decide +kernel
theorem d_Co_countSourceTurn_69 : decode zb_Co_countSourceTurn 69 = .ok (.return_, 1) := by decide +kernel
def k_Co_countSourceTurn_2 (l1 : Int32) : Nat → Int32 → zsC → Option (zsC)
  | 0, _, _ => none
  | fu + 1, l2, x => (k_Ta_used 6 2304 x.2.1).bind fun o1 => (if l2 < o1 then (k_Ta_get 6 2304 x.2.1 l2 ((2 : Int32))).bind fun o4 => (if o4 = l1 then (k_Ta_get 6 2304 x.2.1 l2 ((4 : Int32))).bind fun o6 => (if o6 = (1 : Int32) then (k_Ta_get 6 2304 x.2.1 l2 ((5 : Int32))).bind fun o8 => (k_Ta_set 6 2304 x.2.1 l2 ((5 : Int32)) ((o8 - (1 : Int32)))).bind fun o9 => k_Co_countSourceTurn_2 l1 fu ((l2 + (1 : Int32))) ((x.1, o9, x.2.2)) else k_Co_countSourceTurn_2 l1 fu ((l2 + (1 : Int32))) x) else k_Co_countSourceTurn_2 l1 fu ((l2 + (1 : Int32))) x) else (k_Co_endCounted x).bind fun o3 => some o3)
set_option maxRecDepth 20000 in
theorem w_Co_countSourceTurn_2 {X : zX} {c : zY} {q : Nat → Nat} {l1 : Int32} {out : zsC} (hX : Ok X zr_Co zb_Co_countSourceTurn 3 3 c) (hR : Rt X none none (zwC c q out)) : ∀ (fu : Nat) (l2 : Int32) (x : zsC), k_Co_countSourceTurn_2 l1 fu l2 x = some out → Go X (zwC c q x) [(0, .ref ((q 2))), (1, .int l1), (2, .int l2)] 2 [] := by
  intro fu
  induction fu with
  | zero => intro l2 x h; rw [k_Co_countSourceTurn_2] at h; cases h
  | succ fu ih =>
    intro l2 x h
    rw [k_Co_countSourceTurn_2] at h
    refine g_iload_n (pc := 2) hX d_Co_countSourceTurn_2 rfl 2 rfl ?_
    refine g_aload_n (pc := 3) hX d_Co_countSourceTurn_3 rfl 0 rfl ?_
    refine gf_Co_16 (pc := 4) (v := .ref ((q 3))) hX 2 rfl rfl d_Co_countSourceTurn_4 ?_
    obtain ⟨o1, e1, h⟩ := zbind h
    refine g_cvI (pc := 7)  (st := [.int l2]) (w' := (zwC c q x)) hX zk_Ta_used zs_Ta_used zL_Co_28 (c_Ta_used c (q 3) (q 4) 6 2304 x.2.1 e1) rfl rfl rfl rfl (sp_Co_Ta_3 c q x) (sp_Co_Ta_3 c q x).symm 3 6 rfl rfl rfl d_Co_countSourceTurn_7 ?_
    refine g_icmp_ge (pc := 10) (tgt := 65) hX d_Co_countSourceTurn_10 (by decide) h (fun c2 h => ?_) (fun c2 h => ?_)
    · refine g_aload_n (pc := 65) hX d_Co_countSourceTurn_65 rfl 0 rfl ?_
      obtain ⟨o3, e3, h⟩ := zbind h
      refine g_cvV (pc := 66) (w1 := []) (w2 := []) (st := []) (w' := (zwC c q o3)) hX zk_Co_endCounted zs_Co_endCounted zL_Co_60 (c_Co_endCounted c q x e3) rfl rfl rfl rfl (zself _) (zself _).symm 2 1 rfl rfl rfl d_Co_countSourceTurn_66 ?_
      obtain rfl := Option.some.inj h
      exact g_vret (pc := 69) hX hR d_Co_countSourceTurn_69
    · refine g_aload_n (pc := 13) hX d_Co_countSourceTurn_13 rfl 0 rfl ?_
      refine gf_Co_16 (pc := 14) (v := .ref ((q 3))) hX 2 rfl rfl d_Co_countSourceTurn_14 ?_
      refine g_iload_n (pc := 17) hX d_Co_countSourceTurn_17 rfl 2 rfl ?_
      refine g_iconst (pc := 18) hX d_Co_countSourceTurn_18 zc_2 ?_
      obtain ⟨o4, e4, h⟩ := zbind h
      refine g_cvI (pc := 19)  (st := []) (w' := (zwC c q x)) hX zk_Ta_get zs_Ta_get zL_Co_36 (c_Ta_get c (q 3) (q 4) 6 2304 x.2.1 l2 ((2 : Int32)) e4) rfl rfl rfl rfl (sp_Co_Ta_3 c q x) (sp_Co_Ta_3 c q x).symm 3 6 rfl rfl rfl d_Co_countSourceTurn_19 ?_
      refine g_iload_n (pc := 22) hX d_Co_countSourceTurn_22 rfl 1 rfl ?_
      refine g_icmp_ne (pc := 23) (tgt := 59) hX d_Co_countSourceTurn_23 (by decide) h (fun c5 h => ?_) (fun c5 h => ?_)
      · refine g_iinc (pc := 59) (q := 2) (L' := [(2, .int ((l2 + (1 : Int32)))), (0, .ref ((q 2))), (1, .int l1)]) hX d_Co_countSourceTurn_59 rfl zc_1 rfl rfl ?_
        refine g_goto (pc := 62) (tgt := 2) hX d_Co_countSourceTurn_62 (by decide) ?_
        refine g_ls (L' := [(0, .ref ((q 2))), (1, .int l1), (2, .int ((l2 + (1 : Int32))))]) [1, 2, 0] rfl ?_
        exact ih _ _ h
      · refine g_aload_n (pc := 26) hX d_Co_countSourceTurn_26 rfl 0 rfl ?_
        refine gf_Co_16 (pc := 27) (v := .ref ((q 3))) hX 2 rfl rfl d_Co_countSourceTurn_27 ?_
        refine g_iload_n (pc := 30) hX d_Co_countSourceTurn_30 rfl 2 rfl ?_
        refine g_iconst (pc := 31) hX d_Co_countSourceTurn_31 zc_4 ?_
        obtain ⟨o6, e6, h⟩ := zbind h
        refine g_cvI (pc := 32)  (st := []) (w' := (zwC c q x)) hX zk_Ta_get zs_Ta_get zL_Co_36 (c_Ta_get c (q 3) (q 4) 6 2304 x.2.1 l2 ((4 : Int32)) e6) rfl rfl rfl rfl (sp_Co_Ta_3 c q x) (sp_Co_Ta_3 c q x).symm 3 6 rfl rfl rfl d_Co_countSourceTurn_32 ?_
        refine g_iconst (pc := 35) hX d_Co_countSourceTurn_35 zc_1 ?_
        refine g_icmp_ne (pc := 36) (tgt := 59) hX d_Co_countSourceTurn_36 (by decide) h (fun c7 h => ?_) (fun c7 h => ?_)
        · refine g_iinc (pc := 59) (q := 2) (L' := [(2, .int ((l2 + (1 : Int32)))), (0, .ref ((q 2))), (1, .int l1)]) hX d_Co_countSourceTurn_59 rfl zc_1 rfl rfl ?_
          refine g_goto (pc := 62) (tgt := 2) hX d_Co_countSourceTurn_62 (by decide) ?_
          refine g_ls (L' := [(0, .ref ((q 2))), (1, .int l1), (2, .int ((l2 + (1 : Int32))))]) [1, 2, 0] rfl ?_
          exact ih _ _ h
        · refine g_aload_n (pc := 39) hX d_Co_countSourceTurn_39 rfl 0 rfl ?_
          refine gf_Co_16 (pc := 40) (v := .ref ((q 3))) hX 2 rfl rfl d_Co_countSourceTurn_40 ?_
          refine g_iload_n (pc := 43) hX d_Co_countSourceTurn_43 rfl 2 rfl ?_
          refine g_iconst (pc := 44) hX d_Co_countSourceTurn_44 zc_5 ?_
          refine g_aload_n (pc := 45) hX d_Co_countSourceTurn_45 rfl 0 rfl ?_
          refine gf_Co_16 (pc := 46) (v := .ref ((q 3))) hX 2 rfl rfl d_Co_countSourceTurn_46 ?_
          refine g_iload_n (pc := 49) hX d_Co_countSourceTurn_49 rfl 2 rfl ?_
          refine g_iconst (pc := 50) hX d_Co_countSourceTurn_50 zc_5 ?_
          obtain ⟨o8, e8, h⟩ := zbind h
          refine g_cvI (pc := 51)  (st := [.int ((5 : Int32)), .int l2, .ref ((q 3))]) (w' := (zwC c q x)) hX zk_Ta_get zs_Ta_get zL_Co_36 (c_Ta_get c (q 3) (q 4) 6 2304 x.2.1 l2 ((5 : Int32)) e8) rfl rfl rfl rfl (sp_Co_Ta_3 c q x) (sp_Co_Ta_3 c q x).symm 3 6 rfl rfl rfl d_Co_countSourceTurn_51 ?_
          refine g_iconst (pc := 54) hX d_Co_countSourceTurn_54 zc_1 ?_
          refine g_isub (pc := 55) hX d_Co_countSourceTurn_55 ?_
          obtain ⟨o9, e9, h⟩ := zbind h
          refine g_cvV (pc := 56)  (st := []) (w' := (zwC c q ((x.1, o9, x.2.2)))) hX zk_Ta_set zs_Ta_set zL_Co_47 (c_Ta_set c (q 3) (q 4) 6 2304 x.2.1 l2 ((5 : Int32)) ((o8 - (1 : Int32))) e9) rfl rfl rfl rfl (sp_Co_Ta_3 c q x) (sq_Co_Ta_3 c q x o9) 3 6 rfl rfl rfl d_Co_countSourceTurn_56 ?_
          refine g_iinc (pc := 59) (q := 2) (L' := [(2, .int ((l2 + (1 : Int32)))), (0, .ref ((q 2))), (1, .int l1)]) hX d_Co_countSourceTurn_59 rfl zc_1 rfl rfl ?_
          refine g_goto (pc := 62) (tgt := 2) hX d_Co_countSourceTurn_62 (by decide) ?_
          refine g_ls (L' := [(0, .ref ((q 2))), (1, .int l1), (2, .int ((l2 + (1 : Int32))))]) [1, 2, 0] rfl ?_
          exact ih _ _ h
def k_Co_countSourceTurn (x : zsC) (l1 : Int32) : Option (zsC) := k_Co_countSourceTurn_2 l1 zFu ((0 : Int32)) x
set_option maxRecDepth 20000 in
theorem c_Co_countSourceTurn (c : zY) (q : Nat → Nat) (x : zsC) (l1 : Int32) {out : zsC} (h : k_Co_countSourceTurn x l1 = some out) : KM zy_Co_countSourceTurn zb_Co_countSourceTurn 3 none 3 c [.ref ((q 2)), .int l1] (zwC c q x) (zwC c q out) none := zK_of zp_Co rfl (Nat.le_of_ble_eq_true rfl) (zq_Co c q _ _) (fun X hX hR => by
  show Go X (zwC c q x) [(0, .ref ((q 2))), (1, .int l1)] 0 []
  rw [k_Co_countSourceTurn] at h
  refine g_iconst (pc := 0) hX d_Co_countSourceTurn_0 zc_0 ?_
  refine g_istore_n (pc := 1) (L' := [(2, .int ((0 : Int32))), (0, .ref ((q 2))), (1, .int l1)]) hX d_Co_countSourceTurn_1 rfl rfl rfl ?_
  refine g_ls (L' := [(0, .ref ((q 2))), (1, .int l1), (2, .int ((0 : Int32)))]) [1, 2, 0] rfl ?_
  exact w_Co_countSourceTurn_2 hX hR _ _ _ h)
theorem d_Co_endAllOf_0 : decode zb_Co_endAllOf 0 = .ok (.iconst 0, 1) := by decide +kernel
theorem d_Co_endAllOf_1 : decode zb_Co_endAllOf 1 = .ok (.istore_n 2, 1) := by decide +kernel
theorem d_Co_endAllOf_2 : decode zb_Co_endAllOf 2 = .ok (.iload_n 2, 1) := by decide +kernel
theorem d_Co_endAllOf_3 : decode zb_Co_endAllOf 3 = .ok (.aload_n 0, 1) := by decide +kernel
theorem d_Co_endAllOf_4 : decode zb_Co_endAllOf 4 = .ok (.getfield 16, 3) := by decide +kernel
theorem d_Co_endAllOf_7 : decode zb_Co_endAllOf 7 = .ok (.invokevirtual 28, 3) := by decide +kernel
theorem d_Co_endAllOf_10 : decode zb_Co_endAllOf 10 = .ok (.if_icmp .ge 32, 3) := by decide +kernel
theorem d_Co_endAllOf_13 : decode zb_Co_endAllOf 13 = .ok (.aload_n 0, 1) := by decide +kernel
theorem d_Co_endAllOf_14 : decode zb_Co_endAllOf 14 = .ok (.getfield 16, 3) := by decide +kernel
theorem d_Co_endAllOf_17 : decode zb_Co_endAllOf 17 = .ok (.iload_n 2, 1) := by decide +kernel
theorem d_Co_endAllOf_18 : decode zb_Co_endAllOf 18 = .ok (.iconst 1, 1) := by decide +kernel
theorem d_Co_endAllOf_19 : decode zb_Co_endAllOf 19 = .ok (.invokevirtual 36, 3) := by decide +kernel
theorem d_Co_endAllOf_22 : decode zb_Co_endAllOf 22 = .ok (.iload_n 1, 1) := by decide +kernel
theorem d_Co_endAllOf_23 : decode zb_Co_endAllOf 23 = .ok (.if_icmp .ne 13, 3) := by decide +kernel
theorem d_Co_endAllOf_26 : decode zb_Co_endAllOf 26 = .ok (.aload_n 0, 1) := by decide +kernel
theorem d_Co_endAllOf_27 : decode zb_Co_endAllOf 27 = .ok (.getfield 16, 3) := by decide +kernel
theorem d_Co_endAllOf_30 : decode zb_Co_endAllOf 30 = .ok (.iload_n 2, 1) := by decide +kernel
theorem d_Co_endAllOf_31 : decode zb_Co_endAllOf 31 = .ok (.iconst 5, 1) := by decide +kernel
theorem d_Co_endAllOf_32 : decode zb_Co_endAllOf 32 = .ok (.iconst 0, 1) := by decide +kernel
theorem d_Co_endAllOf_33 : decode zb_Co_endAllOf 33 = .ok (.invokevirtual 47, 3) := by decide +kernel
theorem d_Co_endAllOf_36 : decode zb_Co_endAllOf 36 = .ok (.iinc 2 1, 3) := by decide +kernel
theorem d_Co_endAllOf_39 : decode zb_Co_endAllOf 39 = .ok (.goto (-37), 3) := by decide +kernel
theorem d_Co_endAllOf_42 : decode zb_Co_endAllOf 42 = .ok (.aload_n 0, 1) := by decide +kernel
theorem d_Co_endAllOf_43 : decode zb_Co_endAllOf 43 = .ok (.invokevirtual 60, 3) := by decide +kernel
theorem d_Co_endAllOf_46 : decode zb_Co_endAllOf 46 = .ok (.return_, 1) := by decide +kernel
def k_Co_endAllOf_2 (l1 : Int32) : Nat → Int32 → zsC → Option (zsC)
  | 0, _, _ => none
  | fu + 1, l2, x => (k_Ta_used 6 2304 x.2.1).bind fun o1 => (if l2 < o1 then (k_Ta_get 6 2304 x.2.1 l2 ((1 : Int32))).bind fun o4 => (if o4 = l1 then (k_Ta_set 6 2304 x.2.1 l2 ((5 : Int32)) ((0 : Int32))).bind fun o6 => k_Co_endAllOf_2 l1 fu ((l2 + (1 : Int32))) ((x.1, o6, x.2.2)) else k_Co_endAllOf_2 l1 fu ((l2 + (1 : Int32))) x) else (k_Co_endCounted x).bind fun o3 => some o3)
set_option maxRecDepth 20000 in
theorem w_Co_endAllOf_2 {X : zX} {c : zY} {q : Nat → Nat} {l1 : Int32} {out : zsC} (hX : Ok X zr_Co zb_Co_endAllOf 3 3 c) (hR : Rt X none none (zwC c q out)) : ∀ (fu : Nat) (l2 : Int32) (x : zsC), k_Co_endAllOf_2 l1 fu l2 x = some out → Go X (zwC c q x) [(0, .ref ((q 2))), (1, .int l1), (2, .int l2)] 2 [] := by
  intro fu
  induction fu with
  | zero => intro l2 x h; rw [k_Co_endAllOf_2] at h; cases h
  | succ fu ih =>
    intro l2 x h
    rw [k_Co_endAllOf_2] at h
    refine g_iload_n (pc := 2) hX d_Co_endAllOf_2 rfl 2 rfl ?_
    refine g_aload_n (pc := 3) hX d_Co_endAllOf_3 rfl 0 rfl ?_
    refine gf_Co_16 (pc := 4) (v := .ref ((q 3))) hX 2 rfl rfl d_Co_endAllOf_4 ?_
    obtain ⟨o1, e1, h⟩ := zbind h
    refine g_cvI (pc := 7)  (st := [.int l2]) (w' := (zwC c q x)) hX zk_Ta_used zs_Ta_used zL_Co_28 (c_Ta_used c (q 3) (q 4) 6 2304 x.2.1 e1) rfl rfl rfl rfl (sp_Co_Ta_3 c q x) (sp_Co_Ta_3 c q x).symm 3 6 rfl rfl rfl d_Co_endAllOf_7 ?_
    refine g_icmp_ge (pc := 10) (tgt := 42) hX d_Co_endAllOf_10 (by decide) h (fun c2 h => ?_) (fun c2 h => ?_)
    · refine g_aload_n (pc := 42) hX d_Co_endAllOf_42 rfl 0 rfl ?_
      obtain ⟨o3, e3, h⟩ := zbind h
      refine g_cvV (pc := 43) (w1 := []) (w2 := []) (st := []) (w' := (zwC c q o3)) hX zk_Co_endCounted zs_Co_endCounted zL_Co_60 (c_Co_endCounted c q x e3) rfl rfl rfl rfl (zself _) (zself _).symm 2 1 rfl rfl rfl d_Co_endAllOf_43 ?_
      obtain rfl := Option.some.inj h
      exact g_vret (pc := 46) hX hR d_Co_endAllOf_46
    · refine g_aload_n (pc := 13) hX d_Co_endAllOf_13 rfl 0 rfl ?_
      refine gf_Co_16 (pc := 14) (v := .ref ((q 3))) hX 2 rfl rfl d_Co_endAllOf_14 ?_
      refine g_iload_n (pc := 17) hX d_Co_endAllOf_17 rfl 2 rfl ?_
      refine g_iconst (pc := 18) hX d_Co_endAllOf_18 zc_1 ?_
      obtain ⟨o4, e4, h⟩ := zbind h
      refine g_cvI (pc := 19)  (st := []) (w' := (zwC c q x)) hX zk_Ta_get zs_Ta_get zL_Co_36 (c_Ta_get c (q 3) (q 4) 6 2304 x.2.1 l2 ((1 : Int32)) e4) rfl rfl rfl rfl (sp_Co_Ta_3 c q x) (sp_Co_Ta_3 c q x).symm 3 6 rfl rfl rfl d_Co_endAllOf_19 ?_
      refine g_iload_n (pc := 22) hX d_Co_endAllOf_22 rfl 1 rfl ?_
      refine g_icmp_ne (pc := 23) (tgt := 36) hX d_Co_endAllOf_23 (by decide) h (fun c5 h => ?_) (fun c5 h => ?_)
      · refine g_iinc (pc := 36) (q := 2) (L' := [(2, .int ((l2 + (1 : Int32)))), (0, .ref ((q 2))), (1, .int l1)]) hX d_Co_endAllOf_36 rfl zc_1 rfl rfl ?_
        refine g_goto (pc := 39) (tgt := 2) hX d_Co_endAllOf_39 (by decide) ?_
        refine g_ls (L' := [(0, .ref ((q 2))), (1, .int l1), (2, .int ((l2 + (1 : Int32))))]) [1, 2, 0] rfl ?_
        exact ih _ _ h
      · refine g_aload_n (pc := 26) hX d_Co_endAllOf_26 rfl 0 rfl ?_
        refine gf_Co_16 (pc := 27) (v := .ref ((q 3))) hX 2 rfl rfl d_Co_endAllOf_27 ?_
        refine g_iload_n (pc := 30) hX d_Co_endAllOf_30 rfl 2 rfl ?_
        refine g_iconst (pc := 31) hX d_Co_endAllOf_31 zc_5 ?_
        refine g_iconst (pc := 32) hX d_Co_endAllOf_32 zc_0 ?_
        obtain ⟨o6, e6, h⟩ := zbind h
        refine g_cvV (pc := 33)  (st := []) (w' := (zwC c q ((x.1, o6, x.2.2)))) hX zk_Ta_set zs_Ta_set zL_Co_47 (c_Ta_set c (q 3) (q 4) 6 2304 x.2.1 l2 ((5 : Int32)) ((0 : Int32)) e6) rfl rfl rfl rfl (sp_Co_Ta_3 c q x) (sq_Co_Ta_3 c q x o6) 3 6 rfl rfl rfl d_Co_endAllOf_33 ?_
        refine g_iinc (pc := 36) (q := 2) (L' := [(2, .int ((l2 + (1 : Int32)))), (0, .ref ((q 2))), (1, .int l1)]) hX d_Co_endAllOf_36 rfl zc_1 rfl rfl ?_
        refine g_goto (pc := 39) (tgt := 2) hX d_Co_endAllOf_39 (by decide) ?_
        refine g_ls (L' := [(0, .ref ((q 2))), (1, .int l1), (2, .int ((l2 + (1 : Int32))))]) [1, 2, 0] rfl ?_
        exact ih _ _ h
def k_Co_endAllOf (x : zsC) (l1 : Int32) : Option (zsC) := k_Co_endAllOf_2 l1 zFu ((0 : Int32)) x
set_option maxRecDepth 20000 in
theorem c_Co_endAllOf (c : zY) (q : Nat → Nat) (x : zsC) (l1 : Int32) {out : zsC} (h : k_Co_endAllOf x l1 = some out) : KM zy_Co_endAllOf zb_Co_endAllOf 3 none 3 c [.ref ((q 2)), .int l1] (zwC c q x) (zwC c q out) none := zK_of zp_Co rfl (Nat.le_of_ble_eq_true rfl) (zq_Co c q _ _) (fun X hX hR => by
  show Go X (zwC c q x) [(0, .ref ((q 2))), (1, .int l1)] 0 []
  rw [k_Co_endAllOf] at h
  refine g_iconst (pc := 0) hX d_Co_endAllOf_0 zc_0 ?_
  refine g_istore_n (pc := 1) (L' := [(2, .int ((0 : Int32))), (0, .ref ((q 2))), (1, .int l1)]) hX d_Co_endAllOf_1 rfl rfl rfl ?_
  refine g_ls (L' := [(0, .ref ((q 2))), (1, .int l1), (2, .int ((0 : Int32)))]) [1, 2, 0] rfl ?_
  exact w_Co_endAllOf_2 hX hR _ _ _ h)
theorem d_Co_endHarmedOf_0 : decode zb_Co_endHarmedOf 0 = .ok (.iconst 0, 1) := by decide +kernel
theorem d_Co_endHarmedOf_1 : decode zb_Co_endHarmedOf 1 = .ok (.istore_n 2, 1) := by decide +kernel
theorem d_Co_endHarmedOf_2 : decode zb_Co_endHarmedOf 2 = .ok (.iload_n 2, 1) := by decide +kernel
theorem d_Co_endHarmedOf_3 : decode zb_Co_endHarmedOf 3 = .ok (.aload_n 0, 1) := by decide +kernel
theorem d_Co_endHarmedOf_4 : decode zb_Co_endHarmedOf 4 = .ok (.getfield 16, 3) := by decide +kernel
theorem d_Co_endHarmedOf_7 : decode zb_Co_endHarmedOf 7 = .ok (.invokevirtual 28, 3) := by decide +kernel
theorem d_Co_endHarmedOf_10 : decode zb_Co_endHarmedOf 10 = .ok (.if_icmp .ge 68, 3) := by decide +kernel
theorem d_Co_endHarmedOf_13 : decode zb_Co_endHarmedOf 13 = .ok (.aload_n 0, 1) := by decide +kernel
theorem d_Co_endHarmedOf_14 : decode zb_Co_endHarmedOf 14 = .ok (.getfield 16, 3) := by decide +kernel
theorem d_Co_endHarmedOf_17 : decode zb_Co_endHarmedOf 17 = .ok (.iload_n 2, 1) := by decide +kernel
theorem d_Co_endHarmedOf_18 : decode zb_Co_endHarmedOf 18 = .ok (.iconst 4, 1) := by decide +kernel
theorem d_Co_endHarmedOf_19 : decode zb_Co_endHarmedOf 19 = .ok (.invokevirtual 36, 3) := by decide +kernel
theorem d_Co_endHarmedOf_22 : decode zb_Co_endHarmedOf 22 = .ok (.iconst 2, 1) := by decide +kernel
theorem d_Co_endHarmedOf_23 : decode zb_Co_endHarmedOf 23 = .ok (.if_icmp .eq 16, 3) := by decide +kernel
theorem d_Co_endHarmedOf_26 : decode zb_Co_endHarmedOf 26 = .ok (.aload_n 0, 1) := by decide +kernel
theorem d_Co_endHarmedOf_27 : decode zb_Co_endHarmedOf 27 = .ok (.getfield 16, 3) := by decide +kernel
theorem d_Co_endHarmedOf_30 : decode zb_Co_endHarmedOf 30 = .ok (.iload_n 2, 1) := by decide +kernel
theorem d_Co_endHarmedOf_31 : decode zb_Co_endHarmedOf 31 = .ok (.iconst 0, 1) := by decide +kernel
theorem d_Co_endHarmedOf_32 : decode zb_Co_endHarmedOf 32 = .ok (.invokevirtual 36, 3) := by decide +kernel
theorem d_Co_endHarmedOf_35 : decode zb_Co_endHarmedOf 35 = .ok (.iconst 5, 1) := by decide +kernel
theorem d_Co_endHarmedOf_36 : decode zb_Co_endHarmedOf 36 = .ok (.if_icmp .ne 7, 3) := by decide +kernel
theorem d_Co_endHarmedOf_39 : decode zb_Co_endHarmedOf 39 = .ok (.iconst 1, 1) := by decide +kernel
theorem d_Co_endHarmedOf_40 : decode zb_Co_endHarmedOf 40 = .ok (.goto 4, 3) := by decide +kernel
theorem d_Co_endHarmedOf_43 : decode zb_Co_endHarmedOf 43 = .ok (.iconst 0, 1) := by decide +kernel
theorem d_Co_endHarmedOf_44 : decode zb_Co_endHarmedOf 44 = .ok (.istore_n 3, 1) := by decide +kernel
theorem d_Co_endHarmedOf_45 : decode zb_Co_endHarmedOf 45 = .ok (.iload_n 3, 1) := by decide +kernel
theorem d_Co_endHarmedOf_46 : decode zb_Co_endHarmedOf 46 = .ok (.ifCond .eq 26, 3) := by decide +kernel
theorem d_Co_endHarmedOf_49 : decode zb_Co_endHarmedOf 49 = .ok (.aload_n 0, 1) := by decide +kernel
theorem d_Co_endHarmedOf_50 : decode zb_Co_endHarmedOf 50 = .ok (.getfield 16, 3) := by decide +kernel
theorem d_Co_endHarmedOf_53 : decode zb_Co_endHarmedOf 53 = .ok (.iload_n 2, 1) := by decide +kernel
theorem d_Co_endHarmedOf_54 : decode zb_Co_endHarmedOf 54 = .ok (.iconst 1, 1) := by decide +kernel
theorem d_Co_endHarmedOf_55 : decode zb_Co_endHarmedOf 55 = .ok (.invokevirtual 36, 3) := by decide +kernel
theorem d_Co_endHarmedOf_58 : decode zb_Co_endHarmedOf 58 = .ok (.iload_n 1, 1) := by decide +kernel
theorem d_Co_endHarmedOf_59 : decode zb_Co_endHarmedOf 59 = .ok (.if_icmp .ne 13, 3) := by decide +kernel
theorem d_Co_endHarmedOf_62 : decode zb_Co_endHarmedOf 62 = .ok (.aload_n 0, 1) := by decide +kernel
theorem d_Co_endHarmedOf_63 : decode zb_Co_endHarmedOf 63 = .ok (.getfield 16, 3) := by decide +kernel
theorem d_Co_endHarmedOf_66 : decode zb_Co_endHarmedOf 66 = .ok (.iload_n 2, 1) := by decide +kernel
theorem d_Co_endHarmedOf_67 : decode zb_Co_endHarmedOf 67 = .ok (.iconst 5, 1) := by decide +kernel
theorem d_Co_endHarmedOf_68 : decode zb_Co_endHarmedOf 68 = .ok (.iconst 0, 1) := by decide +kernel
theorem d_Co_endHarmedOf_69 : decode zb_Co_endHarmedOf 69 = .ok (.invokevirtual 47, 3) := by decide +kernel
theorem d_Co_endHarmedOf_72 : decode zb_Co_endHarmedOf 72 = .ok (.iinc 2 1, 3) := by decide +kernel
theorem d_Co_endHarmedOf_75 : decode zb_Co_endHarmedOf 75 = .ok (.goto (-73), 3) := by decide +kernel
theorem d_Co_endHarmedOf_78 : decode zb_Co_endHarmedOf 78 = .ok (.aload_n 0, 1) := by decide +kernel
theorem d_Co_endHarmedOf_79 : decode zb_Co_endHarmedOf 79 = .ok (.invokevirtual 60, 3) := by decide +kernel
theorem d_Co_endHarmedOf_82 : decode zb_Co_endHarmedOf 82 = .ok (.return_, 1) := by decide +kernel
def k_Co_endHarmedOf_44 (l1 : Int32) (kf_2 : Int32 → zsC → Option (zsC)) (l2 : Int32) (s0 : Int32) (x : zsC) : Option (zsC) := (if s0 = 0 then kf_2 ((l2 + (1 : Int32))) x else (k_Ta_get 6 2304 x.2.1 l2 ((1 : Int32))).bind fun o7 => (if o7 = l1 then (k_Ta_set 6 2304 x.2.1 l2 ((5 : Int32)) ((0 : Int32))).bind fun o9 => kf_2 ((l2 + (1 : Int32))) ((x.1, o9, x.2.2)) else kf_2 ((l2 + (1 : Int32))) x))
set_option maxRecDepth 20000 in
theorem w_Co_endHarmedOf_44 {X : zX} {c : zY} {q : Nat → Nat} {l1 : Int32} {out : zsC} {kf_2 : Int32 → zsC → Option (zsC)} (hX : Ok X zr_Co zb_Co_endHarmedOf 4 3 c) (hR : Rt X none none (zwC c q out)) (hk_2 : ∀ (l2 : Int32) (x : zsC), kf_2 l2 x = some out → Go X (zwC c q x) [(0, .ref ((q 2))), (1, .int l1), (2, .int l2)] 2 []) : ∀ (l2 : Int32) (s0 : Int32) (x : zsC), k_Co_endHarmedOf_44 l1 kf_2 l2 s0 x = some out → Go X (zwC c q x) [(0, .ref ((q 2))), (1, .int l1), (2, .int l2)] 44 [.int s0] := by
  intro l2 s0 x h
  rw [k_Co_endHarmedOf_44] at h
  refine g_istore_n (pc := 44) (L' := [(3, .int s0), (0, .ref ((q 2))), (1, .int l1), (2, .int l2)]) hX d_Co_endHarmedOf_44 rfl rfl rfl ?_
  refine g_iload_n (pc := 45) hX d_Co_endHarmedOf_45 rfl 0 rfl ?_
  refine g_if_eq (pc := 46) (tgt := 72) hX d_Co_endHarmedOf_46 (by decide) h (fun c6 h => ?_) (fun c6 h => ?_)
  · refine g_iinc (pc := 72) (q := 3) (L' := [(2, .int ((l2 + (1 : Int32)))), (3, .int s0), (0, .ref ((q 2))), (1, .int l1)]) hX d_Co_endHarmedOf_72 rfl zc_1 rfl rfl ?_
    refine g_goto (pc := 75) (tgt := 2) hX d_Co_endHarmedOf_75 (by decide) ?_
    refine g_ls (L' := [(0, .ref ((q 2))), (1, .int l1), (2, .int ((l2 + (1 : Int32))))]) [2, 3, 0] rfl ?_
    exact hk_2 _ _ h
  · refine g_aload_n (pc := 49) hX d_Co_endHarmedOf_49 rfl 1 rfl ?_
    refine gf_Co_16 (pc := 50) (v := .ref ((q 3))) hX 2 rfl rfl d_Co_endHarmedOf_50 ?_
    refine g_iload_n (pc := 53) hX d_Co_endHarmedOf_53 rfl 3 rfl ?_
    refine g_iconst (pc := 54) hX d_Co_endHarmedOf_54 zc_1 ?_
    obtain ⟨o7, e7, h⟩ := zbind h
    refine g_cvI (pc := 55)  (st := []) (w' := (zwC c q x)) hX zk_Ta_get zs_Ta_get zL_Co_36 (c_Ta_get c (q 3) (q 4) 6 2304 x.2.1 l2 ((1 : Int32)) e7) rfl rfl rfl rfl (sp_Co_Ta_3 c q x) (sp_Co_Ta_3 c q x).symm 3 6 rfl rfl rfl d_Co_endHarmedOf_55 ?_
    refine g_iload_n (pc := 58) hX d_Co_endHarmedOf_58 rfl 2 rfl ?_
    refine g_icmp_ne (pc := 59) (tgt := 72) hX d_Co_endHarmedOf_59 (by decide) h (fun c8 h => ?_) (fun c8 h => ?_)
    · refine g_iinc (pc := 72) (q := 3) (L' := [(2, .int ((l2 + (1 : Int32)))), (3, .int s0), (0, .ref ((q 2))), (1, .int l1)]) hX d_Co_endHarmedOf_72 rfl zc_1 rfl rfl ?_
      refine g_goto (pc := 75) (tgt := 2) hX d_Co_endHarmedOf_75 (by decide) ?_
      refine g_ls (L' := [(0, .ref ((q 2))), (1, .int l1), (2, .int ((l2 + (1 : Int32))))]) [2, 3, 0] rfl ?_
      exact hk_2 _ _ h
    · refine g_aload_n (pc := 62) hX d_Co_endHarmedOf_62 rfl 1 rfl ?_
      refine gf_Co_16 (pc := 63) (v := .ref ((q 3))) hX 2 rfl rfl d_Co_endHarmedOf_63 ?_
      refine g_iload_n (pc := 66) hX d_Co_endHarmedOf_66 rfl 3 rfl ?_
      refine g_iconst (pc := 67) hX d_Co_endHarmedOf_67 zc_5 ?_
      refine g_iconst (pc := 68) hX d_Co_endHarmedOf_68 zc_0 ?_
      obtain ⟨o9, e9, h⟩ := zbind h
      refine g_cvV (pc := 69)  (st := []) (w' := (zwC c q ((x.1, o9, x.2.2)))) hX zk_Ta_set zs_Ta_set zL_Co_47 (c_Ta_set c (q 3) (q 4) 6 2304 x.2.1 l2 ((5 : Int32)) ((0 : Int32)) e9) rfl rfl rfl rfl (sp_Co_Ta_3 c q x) (sq_Co_Ta_3 c q x o9) 3 6 rfl rfl rfl d_Co_endHarmedOf_69 ?_
      refine g_iinc (pc := 72) (q := 3) (L' := [(2, .int ((l2 + (1 : Int32)))), (3, .int s0), (0, .ref ((q 2))), (1, .int l1)]) hX d_Co_endHarmedOf_72 rfl zc_1 rfl rfl ?_
      refine g_goto (pc := 75) (tgt := 2) hX d_Co_endHarmedOf_75 (by decide) ?_
      refine g_ls (L' := [(0, .ref ((q 2))), (1, .int l1), (2, .int ((l2 + (1 : Int32))))]) [2, 3, 0] rfl ?_
      exact hk_2 _ _ h
def k_Co_endHarmedOf_2 (l1 : Int32) : Nat → Int32 → zsC → Option (zsC)
  | 0, _, _ => none
  | fu + 1, l2, x => (k_Ta_used 6 2304 x.2.1).bind fun o1 => (if l2 < o1 then (k_Ta_get 6 2304 x.2.1 l2 ((4 : Int32))).bind fun o4 => (if o4 = (2 : Int32) then k_Co_endHarmedOf_44 l1 (k_Co_endHarmedOf_2 l1 fu) l2 ((1 : Int32)) x else (k_Ta_get 6 2304 x.2.1 l2 ((0 : Int32))).bind fun o10 => (if o10 = (5 : Int32) then k_Co_endHarmedOf_44 l1 (k_Co_endHarmedOf_2 l1 fu) l2 ((1 : Int32)) x else k_Co_endHarmedOf_44 l1 (k_Co_endHarmedOf_2 l1 fu) l2 ((0 : Int32)) x)) else (k_Co_endCounted x).bind fun o3 => some o3)
set_option maxRecDepth 20000 in
theorem w_Co_endHarmedOf_2 {X : zX} {c : zY} {q : Nat → Nat} {l1 : Int32} {out : zsC} (hX : Ok X zr_Co zb_Co_endHarmedOf 4 3 c) (hR : Rt X none none (zwC c q out)) : ∀ (fu : Nat) (l2 : Int32) (x : zsC), k_Co_endHarmedOf_2 l1 fu l2 x = some out → Go X (zwC c q x) [(0, .ref ((q 2))), (1, .int l1), (2, .int l2)] 2 [] := by
  intro fu
  induction fu with
  | zero => intro l2 x h; rw [k_Co_endHarmedOf_2] at h; cases h
  | succ fu ih =>
    intro l2 x h
    rw [k_Co_endHarmedOf_2] at h
    refine g_iload_n (pc := 2) hX d_Co_endHarmedOf_2 rfl 2 rfl ?_
    refine g_aload_n (pc := 3) hX d_Co_endHarmedOf_3 rfl 0 rfl ?_
    refine gf_Co_16 (pc := 4) (v := .ref ((q 3))) hX 2 rfl rfl d_Co_endHarmedOf_4 ?_
    obtain ⟨o1, e1, h⟩ := zbind h
    refine g_cvI (pc := 7)  (st := [.int l2]) (w' := (zwC c q x)) hX zk_Ta_used zs_Ta_used zL_Co_28 (c_Ta_used c (q 3) (q 4) 6 2304 x.2.1 e1) rfl rfl rfl rfl (sp_Co_Ta_3 c q x) (sp_Co_Ta_3 c q x).symm 3 6 rfl rfl rfl d_Co_endHarmedOf_7 ?_
    refine g_icmp_ge (pc := 10) (tgt := 78) hX d_Co_endHarmedOf_10 (by decide) h (fun c2 h => ?_) (fun c2 h => ?_)
    · refine g_aload_n (pc := 78) hX d_Co_endHarmedOf_78 rfl 0 rfl ?_
      obtain ⟨o3, e3, h⟩ := zbind h
      refine g_cvV (pc := 79) (w1 := []) (w2 := []) (st := []) (w' := (zwC c q o3)) hX zk_Co_endCounted zs_Co_endCounted zL_Co_60 (c_Co_endCounted c q x e3) rfl rfl rfl rfl (zself _) (zself _).symm 2 1 rfl rfl rfl d_Co_endHarmedOf_79 ?_
      obtain rfl := Option.some.inj h
      exact g_vret (pc := 82) hX hR d_Co_endHarmedOf_82
    · refine g_aload_n (pc := 13) hX d_Co_endHarmedOf_13 rfl 0 rfl ?_
      refine gf_Co_16 (pc := 14) (v := .ref ((q 3))) hX 2 rfl rfl d_Co_endHarmedOf_14 ?_
      refine g_iload_n (pc := 17) hX d_Co_endHarmedOf_17 rfl 2 rfl ?_
      refine g_iconst (pc := 18) hX d_Co_endHarmedOf_18 zc_4 ?_
      obtain ⟨o4, e4, h⟩ := zbind h
      refine g_cvI (pc := 19)  (st := []) (w' := (zwC c q x)) hX zk_Ta_get zs_Ta_get zL_Co_36 (c_Ta_get c (q 3) (q 4) 6 2304 x.2.1 l2 ((4 : Int32)) e4) rfl rfl rfl rfl (sp_Co_Ta_3 c q x) (sp_Co_Ta_3 c q x).symm 3 6 rfl rfl rfl d_Co_endHarmedOf_19 ?_
      refine g_iconst (pc := 22) hX d_Co_endHarmedOf_22 zc_2 ?_
      refine g_icmp_eq (pc := 23) (tgt := 39) hX d_Co_endHarmedOf_23 (by decide) h (fun c5 h => ?_) (fun c5 h => ?_)
      · refine g_iconst (pc := 39) hX d_Co_endHarmedOf_39 zc_1 ?_
        refine g_goto (pc := 40) (tgt := 44) hX d_Co_endHarmedOf_40 (by decide) ?_
        exact w_Co_endHarmedOf_44 hX hR ih _ _ _ h
      · refine g_aload_n (pc := 26) hX d_Co_endHarmedOf_26 rfl 0 rfl ?_
        refine gf_Co_16 (pc := 27) (v := .ref ((q 3))) hX 2 rfl rfl d_Co_endHarmedOf_27 ?_
        refine g_iload_n (pc := 30) hX d_Co_endHarmedOf_30 rfl 2 rfl ?_
        refine g_iconst (pc := 31) hX d_Co_endHarmedOf_31 zc_0 ?_
        obtain ⟨o10, e10, h⟩ := zbind h
        refine g_cvI (pc := 32)  (st := []) (w' := (zwC c q x)) hX zk_Ta_get zs_Ta_get zL_Co_36 (c_Ta_get c (q 3) (q 4) 6 2304 x.2.1 l2 ((0 : Int32)) e10) rfl rfl rfl rfl (sp_Co_Ta_3 c q x) (sp_Co_Ta_3 c q x).symm 3 6 rfl rfl rfl d_Co_endHarmedOf_32 ?_
        refine g_iconst (pc := 35) hX d_Co_endHarmedOf_35 zc_5 ?_
        refine g_icmp_ne (pc := 36) (tgt := 43) hX d_Co_endHarmedOf_36 (by decide) h (fun c11 h => ?_) (fun c11 h => ?_)
        · refine g_iconst (pc := 43) hX d_Co_endHarmedOf_43 zc_0 ?_
          exact w_Co_endHarmedOf_44 hX hR ih _ _ _ h
        · refine g_iconst (pc := 39) hX d_Co_endHarmedOf_39 zc_1 ?_
          refine g_goto (pc := 40) (tgt := 44) hX d_Co_endHarmedOf_40 (by decide) ?_
          exact w_Co_endHarmedOf_44 hX hR ih _ _ _ h
def k_Co_endHarmedOf (x : zsC) (l1 : Int32) : Option (zsC) := k_Co_endHarmedOf_2 l1 zFu ((0 : Int32)) x
set_option maxRecDepth 20000 in
theorem c_Co_endHarmedOf (c : zY) (q : Nat → Nat) (x : zsC) (l1 : Int32) {out : zsC} (h : k_Co_endHarmedOf x l1 = some out) : KM zy_Co_endHarmedOf zb_Co_endHarmedOf 4 none 3 c [.ref ((q 2)), .int l1] (zwC c q x) (zwC c q out) none := zK_of zp_Co rfl (Nat.le_of_ble_eq_true rfl) (zq_Co c q _ _) (fun X hX hR => by
  show Go X (zwC c q x) [(0, .ref ((q 2))), (1, .int l1)] 0 []
  rw [k_Co_endHarmedOf] at h
  refine g_iconst (pc := 0) hX d_Co_endHarmedOf_0 zc_0 ?_
  refine g_istore_n (pc := 1) (L' := [(2, .int ((0 : Int32))), (0, .ref ((q 2))), (1, .int l1)]) hX d_Co_endHarmedOf_1 rfl rfl rfl ?_
  refine g_ls (L' := [(0, .ref ((q 2))), (1, .int l1), (2, .int ((0 : Int32)))]) [1, 2, 0] rfl ?_
  exact w_Co_endHarmedOf_2 hX hR _ _ _ h)
theorem d_Co_endOfEncounter_0 : decode zb_Co_endOfEncounter 0 = .ok (.iconst 0, 1) := by decide +kernel
theorem d_Co_endOfEncounter_1 : decode zb_Co_endOfEncounter 1 = .ok (.istore_n 1, 1) := by decide +kernel
theorem d_Co_endOfEncounter_2 : decode zb_Co_endOfEncounter 2 = .ok (.iload_n 1, 1) := by decide +kernel
theorem d_Co_endOfEncounter_3 : decode zb_Co_endOfEncounter 3 = .ok (.aload_n 0, 1) := by decide +kernel
theorem d_Co_endOfEncounter_4 : decode zb_Co_endOfEncounter 4 = .ok (.getfield 16, 3) := by decide +kernel
theorem d_Co_endOfEncounter_7 : decode zb_Co_endOfEncounter 7 = .ok (.invokevirtual 28, 3) := by decide +kernel
theorem d_Co_endOfEncounter_10 : decode zb_Co_endOfEncounter 10 = .ok (.if_icmp .ge 44, 3) := by decide +kernel
theorem d_Co_endOfEncounter_13 : decode zb_Co_endOfEncounter 13 = .ok (.aload_n 0, 1) := by decide +kernel
theorem d_Co_endOfEncounter_14 : decode zb_Co_endOfEncounter 14 = .ok (.getfield 16, 3) := by decide +kernel
theorem d_Co_endOfEncounter_17 : decode zb_Co_endOfEncounter 17 = .ok (.iload_n 1, 1) := by decide +kernel
theorem d_Co_endOfEncounter_18 : decode zb_Co_endOfEncounter 18 = .ok (.iconst 4, 1) := by decide +kernel
theorem d_Co_endOfEncounter_19 : decode zb_Co_endOfEncounter 19 = .ok (.invokevirtual 36, 3) := by decide +kernel
theorem d_Co_endOfEncounter_22 : decode zb_Co_endOfEncounter 22 = .ok (.ifCond .eq 16, 3) := by decide +kernel
theorem d_Co_endOfEncounter_25 : decode zb_Co_endOfEncounter 25 = .ok (.aload_n 0, 1) := by decide +kernel
theorem d_Co_endOfEncounter_26 : decode zb_Co_endOfEncounter 26 = .ok (.getfield 16, 3) := by decide +kernel
theorem d_Co_endOfEncounter_29 : decode zb_Co_endOfEncounter 29 = .ok (.iload_n 1, 1) := by decide +kernel
theorem d_Co_endOfEncounter_30 : decode zb_Co_endOfEncounter 30 = .ok (.iconst 4, 1) := by decide +kernel
theorem d_Co_endOfEncounter_31 : decode zb_Co_endOfEncounter 31 = .ok (.invokevirtual 36, 3) := by decide +kernel
theorem d_Co_endOfEncounter_34 : decode zb_Co_endOfEncounter 34 = .ok (.iconst 1, 1) := by decide +kernel
theorem d_Co_endOfEncounter_35 : decode zb_Co_endOfEncounter 35 = .ok (.if_icmp .ne 13, 3) := by decide +kernel
theorem d_Co_endOfEncounter_38 : decode zb_Co_endOfEncounter 38 = .ok (.aload_n 0, 1) := by decide +kernel
theorem d_Co_endOfEncounter_39 : decode zb_Co_endOfEncounter 39 = .ok (.getfield 16, 3) := by decide +kernel
theorem d_Co_endOfEncounter_42 : decode zb_Co_endOfEncounter 42 = .ok (.iload_n 1, 1) := by decide +kernel
theorem d_Co_endOfEncounter_43 : decode zb_Co_endOfEncounter 43 = .ok (.iconst 5, 1) := by decide +kernel
theorem d_Co_endOfEncounter_44 : decode zb_Co_endOfEncounter 44 = .ok (.iconst 0, 1) := by decide +kernel
theorem d_Co_endOfEncounter_45 : decode zb_Co_endOfEncounter 45 = .ok (.invokevirtual 47, 3) := by decide +kernel
theorem d_Co_endOfEncounter_48 : decode zb_Co_endOfEncounter 48 = .ok (.iinc 1 1, 3) := by decide +kernel
theorem d_Co_endOfEncounter_51 : decode zb_Co_endOfEncounter 51 = .ok (.goto (-49), 3) := by decide +kernel
theorem d_Co_endOfEncounter_54 : decode zb_Co_endOfEncounter 54 = .ok (.aload_n 0, 1) := by decide +kernel
theorem d_Co_endOfEncounter_55 : decode zb_Co_endOfEncounter 55 = .ok (.invokevirtual 60, 3) := by decide +kernel
theorem d_Co_endOfEncounter_58 : decode zb_Co_endOfEncounter 58 = .ok (.return_, 1) := by decide +kernel
def k_Co_endOfEncounter_38 (kf_2 : Int32 → zsC → Option (zsC)) (l1 : Int32) (x : zsC) : Option (zsC) := (k_Ta_set 6 2304 x.2.1 l1 ((5 : Int32)) ((0 : Int32))).bind fun o6 => kf_2 ((l1 + (1 : Int32))) ((x.1, o6, x.2.2))
set_option maxRecDepth 20000 in
theorem w_Co_endOfEncounter_38 {X : zX} {c : zY} {q : Nat → Nat} {out : zsC} {kf_2 : Int32 → zsC → Option (zsC)} (hX : Ok X zr_Co zb_Co_endOfEncounter 2 3 c) (hR : Rt X none none (zwC c q out)) (hk_2 : ∀ (l1 : Int32) (x : zsC), kf_2 l1 x = some out → Go X (zwC c q x) [(0, .ref ((q 2))), (1, .int l1)] 2 []) : ∀ (l1 : Int32) (x : zsC), k_Co_endOfEncounter_38 kf_2 l1 x = some out → Go X (zwC c q x) [(0, .ref ((q 2))), (1, .int l1)] 38 [] := by
  intro l1 x h
  rw [k_Co_endOfEncounter_38] at h
  refine g_aload_n (pc := 38) hX d_Co_endOfEncounter_38 rfl 0 rfl ?_
  refine gf_Co_16 (pc := 39) (v := .ref ((q 3))) hX 2 rfl rfl d_Co_endOfEncounter_39 ?_
  refine g_iload_n (pc := 42) hX d_Co_endOfEncounter_42 rfl 1 rfl ?_
  refine g_iconst (pc := 43) hX d_Co_endOfEncounter_43 zc_5 ?_
  refine g_iconst (pc := 44) hX d_Co_endOfEncounter_44 zc_0 ?_
  obtain ⟨o6, e6, h⟩ := zbind h
  refine g_cvV (pc := 45)  (st := []) (w' := (zwC c q ((x.1, o6, x.2.2)))) hX zk_Ta_set zs_Ta_set zL_Co_47 (c_Ta_set c (q 3) (q 4) 6 2304 x.2.1 l1 ((5 : Int32)) ((0 : Int32)) e6) rfl rfl rfl rfl (sp_Co_Ta_3 c q x) (sq_Co_Ta_3 c q x o6) 3 6 rfl rfl rfl d_Co_endOfEncounter_45 ?_
  refine g_iinc (pc := 48) (q := 1) (L' := [(1, .int ((l1 + (1 : Int32)))), (0, .ref ((q 2)))]) hX d_Co_endOfEncounter_48 rfl zc_1 rfl rfl ?_
  refine g_goto (pc := 51) (tgt := 2) hX d_Co_endOfEncounter_51 (by decide) ?_
  refine g_ls (L' := [(0, .ref ((q 2))), (1, .int ((l1 + (1 : Int32))))]) [1, 0] rfl ?_
  exact hk_2 _ _ h
def k_Co_endOfEncounter_2 : Nat → Int32 → zsC → Option (zsC)
  | 0, _, _ => none
  | fu + 1, l1, x => (k_Ta_used 6 2304 x.2.1).bind fun o1 => (if l1 < o1 then (k_Ta_get 6 2304 x.2.1 l1 ((4 : Int32))).bind fun o4 => (if o4 = 0 then k_Co_endOfEncounter_38 (k_Co_endOfEncounter_2 fu) l1 x else (k_Ta_get 6 2304 x.2.1 l1 ((4 : Int32))).bind fun o7 => (if o7 = (1 : Int32) then k_Co_endOfEncounter_38 (k_Co_endOfEncounter_2 fu) l1 x else k_Co_endOfEncounter_2 fu ((l1 + (1 : Int32))) x)) else (k_Co_endCounted x).bind fun o3 => some o3)
set_option maxRecDepth 20000 in
theorem w_Co_endOfEncounter_2 {X : zX} {c : zY} {q : Nat → Nat} {out : zsC} (hX : Ok X zr_Co zb_Co_endOfEncounter 2 3 c) (hR : Rt X none none (zwC c q out)) : ∀ (fu : Nat) (l1 : Int32) (x : zsC), k_Co_endOfEncounter_2 fu l1 x = some out → Go X (zwC c q x) [(0, .ref ((q 2))), (1, .int l1)] 2 [] := by
  intro fu
  induction fu with
  | zero => intro l1 x h; rw [k_Co_endOfEncounter_2] at h; cases h
  | succ fu ih =>
    intro l1 x h
    rw [k_Co_endOfEncounter_2] at h
    refine g_iload_n (pc := 2) hX d_Co_endOfEncounter_2 rfl 1 rfl ?_
    refine g_aload_n (pc := 3) hX d_Co_endOfEncounter_3 rfl 0 rfl ?_
    refine gf_Co_16 (pc := 4) (v := .ref ((q 3))) hX 2 rfl rfl d_Co_endOfEncounter_4 ?_
    obtain ⟨o1, e1, h⟩ := zbind h
    refine g_cvI (pc := 7)  (st := [.int l1]) (w' := (zwC c q x)) hX zk_Ta_used zs_Ta_used zL_Co_28 (c_Ta_used c (q 3) (q 4) 6 2304 x.2.1 e1) rfl rfl rfl rfl (sp_Co_Ta_3 c q x) (sp_Co_Ta_3 c q x).symm 3 6 rfl rfl rfl d_Co_endOfEncounter_7 ?_
    refine g_icmp_ge (pc := 10) (tgt := 54) hX d_Co_endOfEncounter_10 (by decide) h (fun c2 h => ?_) (fun c2 h => ?_)
    · refine g_aload_n (pc := 54) hX d_Co_endOfEncounter_54 rfl 0 rfl ?_
      obtain ⟨o3, e3, h⟩ := zbind h
      refine g_cvV (pc := 55) (w1 := []) (w2 := []) (st := []) (w' := (zwC c q o3)) hX zk_Co_endCounted zs_Co_endCounted zL_Co_60 (c_Co_endCounted c q x e3) rfl rfl rfl rfl (zself _) (zself _).symm 2 1 rfl rfl rfl d_Co_endOfEncounter_55 ?_
      obtain rfl := Option.some.inj h
      exact g_vret (pc := 58) hX hR d_Co_endOfEncounter_58
    · refine g_aload_n (pc := 13) hX d_Co_endOfEncounter_13 rfl 0 rfl ?_
      refine gf_Co_16 (pc := 14) (v := .ref ((q 3))) hX 2 rfl rfl d_Co_endOfEncounter_14 ?_
      refine g_iload_n (pc := 17) hX d_Co_endOfEncounter_17 rfl 1 rfl ?_
      refine g_iconst (pc := 18) hX d_Co_endOfEncounter_18 zc_4 ?_
      obtain ⟨o4, e4, h⟩ := zbind h
      refine g_cvI (pc := 19)  (st := []) (w' := (zwC c q x)) hX zk_Ta_get zs_Ta_get zL_Co_36 (c_Ta_get c (q 3) (q 4) 6 2304 x.2.1 l1 ((4 : Int32)) e4) rfl rfl rfl rfl (sp_Co_Ta_3 c q x) (sp_Co_Ta_3 c q x).symm 3 6 rfl rfl rfl d_Co_endOfEncounter_19 ?_
      refine g_if_eq (pc := 22) (tgt := 38) hX d_Co_endOfEncounter_22 (by decide) h (fun c5 h => ?_) (fun c5 h => ?_)
      · exact w_Co_endOfEncounter_38 hX hR ih _ _ h
      · refine g_aload_n (pc := 25) hX d_Co_endOfEncounter_25 rfl 0 rfl ?_
        refine gf_Co_16 (pc := 26) (v := .ref ((q 3))) hX 2 rfl rfl d_Co_endOfEncounter_26 ?_
        refine g_iload_n (pc := 29) hX d_Co_endOfEncounter_29 rfl 1 rfl ?_
        refine g_iconst (pc := 30) hX d_Co_endOfEncounter_30 zc_4 ?_
        obtain ⟨o7, e7, h⟩ := zbind h
        refine g_cvI (pc := 31)  (st := []) (w' := (zwC c q x)) hX zk_Ta_get zs_Ta_get zL_Co_36 (c_Ta_get c (q 3) (q 4) 6 2304 x.2.1 l1 ((4 : Int32)) e7) rfl rfl rfl rfl (sp_Co_Ta_3 c q x) (sp_Co_Ta_3 c q x).symm 3 6 rfl rfl rfl d_Co_endOfEncounter_31 ?_
        refine g_iconst (pc := 34) hX d_Co_endOfEncounter_34 zc_1 ?_
        refine g_icmp_ne (pc := 35) (tgt := 48) hX d_Co_endOfEncounter_35 (by decide) h (fun c8 h => ?_) (fun c8 h => ?_)
        · refine g_iinc (pc := 48) (q := 1) (L' := [(1, .int ((l1 + (1 : Int32)))), (0, .ref ((q 2)))]) hX d_Co_endOfEncounter_48 rfl zc_1 rfl rfl ?_
          refine g_goto (pc := 51) (tgt := 2) hX d_Co_endOfEncounter_51 (by decide) ?_
          refine g_ls (L' := [(0, .ref ((q 2))), (1, .int ((l1 + (1 : Int32))))]) [1, 0] rfl ?_
          exact ih _ _ h
        · exact w_Co_endOfEncounter_38 hX hR ih _ _ h
def k_Co_endOfEncounter (x : zsC) : Option (zsC) := k_Co_endOfEncounter_2 zFu ((0 : Int32)) x
set_option maxRecDepth 20000 in
theorem c_Co_endOfEncounter (c : zY) (q : Nat → Nat) (x : zsC) {out : zsC} (h : k_Co_endOfEncounter x = some out) : KM zy_Co_endOfEncounter zb_Co_endOfEncounter 2 none 3 c [.ref ((q 2))] (zwC c q x) (zwC c q out) none := zK_of zp_Co rfl (Nat.le_of_ble_eq_true rfl) (zq_Co c q _ _) (fun X hX hR => by
  show Go X (zwC c q x) [(0, .ref ((q 2)))] 0 []
  rw [k_Co_endOfEncounter] at h
  refine g_iconst (pc := 0) hX d_Co_endOfEncounter_0 zc_0 ?_
  refine g_istore_n (pc := 1) (L' := [(1, .int ((0 : Int32))), (0, .ref ((q 2)))]) hX d_Co_endOfEncounter_1 rfl rfl rfl ?_
  refine g_ls (L' := [(0, .ref ((q 2))), (1, .int ((0 : Int32)))]) [1, 0] rfl ?_
  exact w_Co_endOfEncounter_2 hX hR _ _ _ h)
theorem d_Co_endWith_0 : decode zb_Co_endWith 0 = .ok (.iconst 0, 1) := by decide +kernel
theorem d_Co_endWith_1 : decode zb_Co_endWith 1 = .ok (.istore_n 2, 1) := by decide +kernel
theorem d_Co_endWith_2 : decode zb_Co_endWith 2 = .ok (.iload_n 2, 1) := by decide +kernel
theorem d_Co_endWith_3 : decode zb_Co_endWith 3 = .ok (.aload_n 0, 1) := by decide +kernel
theorem d_Co_endWith_4 : decode zb_Co_endWith 4 = .ok (.getfield 16, 3) := by decide +kernel
theorem d_Co_endWith_7 : decode zb_Co_endWith 7 = .ok (.invokevirtual 28, 3) := by decide +kernel
theorem d_Co_endWith_10 : decode zb_Co_endWith 10 = .ok (.if_icmp .ge 32, 3) := by decide +kernel
theorem d_Co_endWith_13 : decode zb_Co_endWith 13 = .ok (.aload_n 0, 1) := by decide +kernel
theorem d_Co_endWith_14 : decode zb_Co_endWith 14 = .ok (.getfield 16, 3) := by decide +kernel
theorem d_Co_endWith_17 : decode zb_Co_endWith 17 = .ok (.iload_n 2, 1) := by decide +kernel
theorem d_Co_endWith_18 : decode zb_Co_endWith 18 = .ok (.iconst 4, 1) := by decide +kernel
theorem d_Co_endWith_19 : decode zb_Co_endWith 19 = .ok (.invokevirtual 36, 3) := by decide +kernel
theorem d_Co_endWith_22 : decode zb_Co_endWith 22 = .ok (.iload_n 1, 1) := by decide +kernel
theorem d_Co_endWith_23 : decode zb_Co_endWith 23 = .ok (.if_icmp .ne 13, 3) := by decide +kernel
theorem d_Co_endWith_26 : decode zb_Co_endWith 26 = .ok (.aload_n 0, 1) := by decide +kernel
theorem d_Co_endWith_27 : decode zb_Co_endWith 27 = .ok (.getfield 16, 3) := by decide +kernel
theorem d_Co_endWith_30 : decode zb_Co_endWith 30 = .ok (.iload_n 2, 1) := by decide +kernel
theorem d_Co_endWith_31 : decode zb_Co_endWith 31 = .ok (.iconst 5, 1) := by decide +kernel
theorem d_Co_endWith_32 : decode zb_Co_endWith 32 = .ok (.iconst 0, 1) := by decide +kernel
theorem d_Co_endWith_33 : decode zb_Co_endWith 33 = .ok (.invokevirtual 47, 3) := by decide +kernel
theorem d_Co_endWith_36 : decode zb_Co_endWith 36 = .ok (.iinc 2 1, 3) := by decide +kernel
theorem d_Co_endWith_39 : decode zb_Co_endWith 39 = .ok (.goto (-37), 3) := by decide +kernel
theorem d_Co_endWith_42 : decode zb_Co_endWith 42 = .ok (.aload_n 0, 1) := by decide +kernel
theorem d_Co_endWith_43 : decode zb_Co_endWith 43 = .ok (.invokevirtual 60, 3) := by decide +kernel
theorem d_Co_endWith_46 : decode zb_Co_endWith 46 = .ok (.return_, 1) := by decide +kernel
def k_Co_endWith_2 (l1 : Int32) : Nat → Int32 → zsC → Option (zsC)
  | 0, _, _ => none
  | fu + 1, l2, x => (k_Ta_used 6 2304 x.2.1).bind fun o1 => (if l2 < o1 then (k_Ta_get 6 2304 x.2.1 l2 ((4 : Int32))).bind fun o4 => (if o4 = l1 then (k_Ta_set 6 2304 x.2.1 l2 ((5 : Int32)) ((0 : Int32))).bind fun o6 => k_Co_endWith_2 l1 fu ((l2 + (1 : Int32))) ((x.1, o6, x.2.2)) else k_Co_endWith_2 l1 fu ((l2 + (1 : Int32))) x) else (k_Co_endCounted x).bind fun o3 => some o3)
set_option maxRecDepth 20000 in
theorem w_Co_endWith_2 {X : zX} {c : zY} {q : Nat → Nat} {l1 : Int32} {out : zsC} (hX : Ok X zr_Co zb_Co_endWith 3 3 c) (hR : Rt X none none (zwC c q out)) : ∀ (fu : Nat) (l2 : Int32) (x : zsC), k_Co_endWith_2 l1 fu l2 x = some out → Go X (zwC c q x) [(0, .ref ((q 2))), (1, .int l1), (2, .int l2)] 2 [] := by
  intro fu
  induction fu with
  | zero => intro l2 x h; rw [k_Co_endWith_2] at h; cases h
  | succ fu ih =>
    intro l2 x h
    rw [k_Co_endWith_2] at h
    refine g_iload_n (pc := 2) hX d_Co_endWith_2 rfl 2 rfl ?_
    refine g_aload_n (pc := 3) hX d_Co_endWith_3 rfl 0 rfl ?_
    refine gf_Co_16 (pc := 4) (v := .ref ((q 3))) hX 2 rfl rfl d_Co_endWith_4 ?_
    obtain ⟨o1, e1, h⟩ := zbind h
    refine g_cvI (pc := 7)  (st := [.int l2]) (w' := (zwC c q x)) hX zk_Ta_used zs_Ta_used zL_Co_28 (c_Ta_used c (q 3) (q 4) 6 2304 x.2.1 e1) rfl rfl rfl rfl (sp_Co_Ta_3 c q x) (sp_Co_Ta_3 c q x).symm 3 6 rfl rfl rfl d_Co_endWith_7 ?_
    refine g_icmp_ge (pc := 10) (tgt := 42) hX d_Co_endWith_10 (by decide) h (fun c2 h => ?_) (fun c2 h => ?_)
    · refine g_aload_n (pc := 42) hX d_Co_endWith_42 rfl 0 rfl ?_
      obtain ⟨o3, e3, h⟩ := zbind h
      refine g_cvV (pc := 43) (w1 := []) (w2 := []) (st := []) (w' := (zwC c q o3)) hX zk_Co_endCounted zs_Co_endCounted zL_Co_60 (c_Co_endCounted c q x e3) rfl rfl rfl rfl (zself _) (zself _).symm 2 1 rfl rfl rfl d_Co_endWith_43 ?_
      obtain rfl := Option.some.inj h
      exact g_vret (pc := 46) hX hR d_Co_endWith_46
    · refine g_aload_n (pc := 13) hX d_Co_endWith_13 rfl 0 rfl ?_
      refine gf_Co_16 (pc := 14) (v := .ref ((q 3))) hX 2 rfl rfl d_Co_endWith_14 ?_
      refine g_iload_n (pc := 17) hX d_Co_endWith_17 rfl 2 rfl ?_
      refine g_iconst (pc := 18) hX d_Co_endWith_18 zc_4 ?_
      obtain ⟨o4, e4, h⟩ := zbind h
      refine g_cvI (pc := 19)  (st := []) (w' := (zwC c q x)) hX zk_Ta_get zs_Ta_get zL_Co_36 (c_Ta_get c (q 3) (q 4) 6 2304 x.2.1 l2 ((4 : Int32)) e4) rfl rfl rfl rfl (sp_Co_Ta_3 c q x) (sp_Co_Ta_3 c q x).symm 3 6 rfl rfl rfl d_Co_endWith_19 ?_
      refine g_iload_n (pc := 22) hX d_Co_endWith_22 rfl 1 rfl ?_
      refine g_icmp_ne (pc := 23) (tgt := 36) hX d_Co_endWith_23 (by decide) h (fun c5 h => ?_) (fun c5 h => ?_)
      · refine g_iinc (pc := 36) (q := 2) (L' := [(2, .int ((l2 + (1 : Int32)))), (0, .ref ((q 2))), (1, .int l1)]) hX d_Co_endWith_36 rfl zc_1 rfl rfl ?_
        refine g_goto (pc := 39) (tgt := 2) hX d_Co_endWith_39 (by decide) ?_
        refine g_ls (L' := [(0, .ref ((q 2))), (1, .int l1), (2, .int ((l2 + (1 : Int32))))]) [1, 2, 0] rfl ?_
        exact ih _ _ h
      · refine g_aload_n (pc := 26) hX d_Co_endWith_26 rfl 0 rfl ?_
        refine gf_Co_16 (pc := 27) (v := .ref ((q 3))) hX 2 rfl rfl d_Co_endWith_27 ?_
        refine g_iload_n (pc := 30) hX d_Co_endWith_30 rfl 2 rfl ?_
        refine g_iconst (pc := 31) hX d_Co_endWith_31 zc_5 ?_
        refine g_iconst (pc := 32) hX d_Co_endWith_32 zc_0 ?_
        obtain ⟨o6, e6, h⟩ := zbind h
        refine g_cvV (pc := 33)  (st := []) (w' := (zwC c q ((x.1, o6, x.2.2)))) hX zk_Ta_set zs_Ta_set zL_Co_47 (c_Ta_set c (q 3) (q 4) 6 2304 x.2.1 l2 ((5 : Int32)) ((0 : Int32)) e6) rfl rfl rfl rfl (sp_Co_Ta_3 c q x) (sq_Co_Ta_3 c q x o6) 3 6 rfl rfl rfl d_Co_endWith_33 ?_
        refine g_iinc (pc := 36) (q := 2) (L' := [(2, .int ((l2 + (1 : Int32)))), (0, .ref ((q 2))), (1, .int l1)]) hX d_Co_endWith_36 rfl zc_1 rfl rfl ?_
        refine g_goto (pc := 39) (tgt := 2) hX d_Co_endWith_39 (by decide) ?_
        refine g_ls (L' := [(0, .ref ((q 2))), (1, .int l1), (2, .int ((l2 + (1 : Int32))))]) [1, 2, 0] rfl ?_
        exact ih _ _ h
def k_Co_endWith (x : zsC) (l1 : Int32) : Option (zsC) := k_Co_endWith_2 l1 zFu ((0 : Int32)) x
set_option maxRecDepth 20000 in
theorem c_Co_endWith (c : zY) (q : Nat → Nat) (x : zsC) (l1 : Int32) {out : zsC} (h : k_Co_endWith x l1 = some out) : KM zy_Co_endWith zb_Co_endWith 3 none 3 c [.ref ((q 2)), .int l1] (zwC c q x) (zwC c q out) none := zK_of zp_Co rfl (Nat.le_of_ble_eq_true rfl) (zq_Co c q _ _) (fun X hX hR => by
  show Go X (zwC c q x) [(0, .ref ((q 2))), (1, .int l1)] 0 []
  rw [k_Co_endWith] at h
  refine g_iconst (pc := 0) hX d_Co_endWith_0 zc_0 ?_
  refine g_istore_n (pc := 1) (L' := [(2, .int ((0 : Int32))), (0, .ref ((q 2))), (1, .int l1)]) hX d_Co_endWith_1 rfl rfl rfl ?_
  refine g_ls (L' := [(0, .ref ((q 2))), (1, .int l1), (2, .int ((0 : Int32)))]) [1, 2, 0] rfl ?_
  exact w_Co_endWith_2 hX hR _ _ _ h)
