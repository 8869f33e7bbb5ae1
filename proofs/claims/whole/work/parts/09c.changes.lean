theorem d_Ch_keep_0 : decode zb_Ch_keep 0 = .ok (.aload_n 0, 1) := by decide +kernel
theorem d_Ch_keep_1 : decode zb_Ch_keep 1 = .ok (.getfield 16, 3) := by decide +kernel
theorem d_Ch_keep_4 : decode zb_Ch_keep 4 = .ok (.ifCond .lt 27, 3) := by decide +kernel
theorem d_Ch_keep_7 : decode zb_Ch_keep 7 = .ok (.aload_n 0, 1) := by decide +kernel
theorem d_Ch_keep_8 : decode zb_Ch_keep 8 = .ok (.getfield 16, 3) := by decide +kernel
theorem d_Ch_keep_11 : decode zb_Ch_keep 11 = .ok (.aload_n 0, 1) := by decide +kernel
theorem d_Ch_keep_12 : decode zb_Ch_keep 12 = .ok (.getfield 11, 3) := by decide +kernel
theorem d_Ch_keep_15 : decode zb_Ch_keep 15 = .ok (.arraylength, 1) := by decide +kernel
theorem d_Ch_keep_16 : decode zb_Ch_keep 16 = .ok (.if_icmp .ge 15, 3) := by decide +kernel
theorem d_Ch_keep_19 : decode zb_Ch_keep 19 = .ok (.aload_n 0, 1) := by decide +kernel
theorem d_Ch_keep_20 : decode zb_Ch_keep 20 = .ok (.getfield 11, 3) := by decide +kernel
theorem d_Ch_keep_23 : decode zb_Ch_keep 23 = .ok (.aload_n 0, 1) := by decide +kernel
theorem d_Ch_keep_24 : decode zb_Ch_keep 24 = .ok (.getfield 16, 3) := by decide +kernel
theorem d_Ch_keep_27 : decode zb_Ch_keep 27 = .ok (.aaload, 1) := by decide +kernel
theorem d_Ch_keep_28 : decode zb_Ch_keep 28 = .ok (.goto 4, 3) := by decide +kernel
theorem d_Ch_keep_31 : decode zb_Ch_keep 31 = .ok (.aconst_null, 1) := by decide +kernel
theorem d_Ch_keep_32 : decode zb_Ch_keep 32 = .ok (.astore_n 2, 1) := by decide +kernel
theorem d_Ch_keep_33 : decode zb_Ch_keep 33 = .ok (.aload_n 2, 1) := by decide +kernel
theorem d_Ch_keep_34 : decode zb_Ch_keep 34 = .ok (.ifnull 36, 3) := by decide +kernel
theorem d_Ch_keep_37 : decode zb_Ch_keep 37 = .ok (.aload_n 2, 1) := by decide +kernel
theorem d_Ch_keep_38 : decode zb_Ch_keep 38 = .ok (.aload_n 1, 1) := by decide +kernel
theorem d_Ch_keep_39 : decode zb_Ch_keep 39 = .ok (.invokevirtual 20, 3) := by decide +kernel
theorem d_Ch_keep_42 : decode zb_Ch_keep 42 = .ok (.aload_n 0, 1) := by decide +kernel
theorem d_Ch_keep_43 : decode zb_Ch_keep 43 = .ok (.aload_n 0, 1) := by decide +kernel
theorem d_Ch_keep_44 : decode zb_Ch_keep 44 = .ok (.getfield 16, 3) := by decide +kernel
theorem d_Ch_keep_47 : decode zb_Ch_keep 47 = .ok (.iconst 1, 1) := by decide +kernel
theorem d_Ch_keep_48 : decode zb_Ch_keep 48 = .ok (.iadd, 1) := by decide +kernel
theorem d_Ch_keep_49 : decode zb_Ch_keep 49 = .ok (.bipush 6, 2) := by decide +kernel
theorem d_Ch_keep_51 : decode zb_Ch_keep 51 = .ok (.irem, 1) := by decide +kernel
theorem d_Ch_keep_52 : decode zb_Ch_keep 52 = .ok (.putfield 16, 3) := by decide +kernel
theorem d_Ch_keep_55 : decode zb_Ch_keep 55 = .ok (.aload_n 0, 1) := by decide +kernel
theorem d_Ch_keep_56 : decode zb_Ch_keep 56 = .ok (.bipush 6, 2) := by decide +kernel
theorem d_Ch_keep_58 : decode zb_Ch_keep 58 = .ok (.aload_n 0, 1) := by decide +kernel
theorem d_Ch_keep_59 : decode zb_Ch_keep 59 = .ok (.getfield 24, 3) := by decide +kernel
theorem d_Ch_keep_62 : decode zb_Ch_keep 62 = .ok (.iconst 1, 1) := by decide +kernel
theorem d_Ch_keep_63 : decode zb_Ch_keep 63 = .ok (.iadd, 1) := by decide +kernel
theorem d_Ch_keep_64 : decode zb_Ch_keep 64 = .ok (.invokestatic 27, 3) := by decide +kernel
theorem d_Ch_keep_67 : decode zb_Ch_keep 67 = .ok (.putfield 24, 3) := by decide +kernel
theorem d_Ch_keep_70 : decode zb_Ch_keep 70 = .ok (.return_, 1) := by decide +kernel
def k_Ch_keep (y : zsS) (x : zsK) : Option zsK := (if x.2.2 < 0 then some x else (if x.2.2 < (6 : Int32) then (k_St_become y (x.1 x.2.2.toNatClampNeg)).bind fun o => some (va_up x.1 x.2.2.toNatClampNeg o, zmin (6 : Int32) (x.2.1 + (1 : Int32)), zrem (x.2.2 + (1 : Int32)) (6 : Int32)) else some x))
theorem w_Ch_keep_31 {X : zX} {c : zY} {q : Nat → Nat} {y : zsS} {x : zsK} (hX : Ok X zr_Ch zb_Ch_keep 3 4 c) (hR : Rt X none none (zwKN c q y x)) : Go X (zwKN c q y x) [(0, .ref (q 24)), (1, .ref (q 12))] 31 [] := by
  refine g_null (pc := 31) hX d_Ch_keep_31 ?_
  refine g_astoreN_n (pc := 32) (L' := [(2, .null), (0, .ref (q 24)), (1, .ref (q 12))]) hX d_Ch_keep_32 rfl rfl rfl ?_
  refine g_aloadN_n (pc := 33) hX d_Ch_keep_33 rfl 0 rfl ?_
  refine g_ifnullN (pc := 34) (tgt := 70) hX d_Ch_keep_34 (by decide) ?_
  exact g_vret (pc := 70) hX hR d_Ch_keep_70
theorem w_Ch_keep_32_0 {X : zX} {c : zY} {q : Nat → Nat} {y : zsS} {x : zsK} {o : zsS} (e : k_St_become y (x.1 0) = some o) (hX : Ok X zr_Ch zb_Ch_keep 3 4 c) (hR : Rt X none none (zwKN c q y (va_up x.1 0 o, zmin (6 : Int32) (x.2.1 + (1 : Int32)), zrem (x.2.2 + (1 : Int32)) (6 : Int32)))) : Go X (zwKN c q y x) [(0, .ref (q 24)), (1, .ref (q 12))] 32 [.ref (q 55)] := by
  refine g_astore_n (pc := 32) (L' := [(2, .ref (q 55)), (0, .ref (q 24)), (1, .ref (q 12))]) hX d_Ch_keep_32 rfl rfl rfl ?_
  refine g_aload_n (pc := 33) hX d_Ch_keep_33 rfl 0 rfl ?_
  refine g_ifnull (pc := 34) hX d_Ch_keep_34 ?_
  refine g_aload_n (pc := 37) hX d_Ch_keep_37 rfl 0 rfl ?_
  refine g_aload_n (pc := 38) hX d_Ch_keep_38 rfl 2 rfl ?_
  refine zperm (zkp_0 c q y x) ?_
  refine g_cvV (pc := 39) (w1 := []) (w2 := zUN_0 c q y x ++ zVN_0 c q y x) (st := []) (w' := zwSS c (fun j => q (j + 43)) q y o ++ (zUN_0 c q y x ++ zVN_0 c q y x)) hX zk_St_become zs_St_become zL_Ch_20 (c_St_become c (fun j => q (j + 43)) q y (x.1 0) e) rfl rfl rfl rfl rfl rfl 12 5 rfl rfl rfl d_Ch_keep_39 ?_
  refine zperm (w' := zwKN c q y (va_up x.1 0 o, x.2)) (zkq_0 c q y x o) ?_
  refine g_aload_n (pc := 42) hX d_Ch_keep_42 rfl 1 rfl ?_
  refine g_aload_n (pc := 43) hX d_Ch_keep_43 rfl 1 rfl ?_
  refine gf_Ch_16 (pc := 44) (v := .int x.2.2) hX 17 rfl rfl d_Ch_keep_44 ?_
  refine g_iconst (pc := 47) hX d_Ch_keep_47 zc_1 ?_
  refine g_iadd (pc := 48) hX d_Ch_keep_48 ?_
  refine g_bipush (pc := 49) hX d_Ch_keep_49 ze_6 ?_
  refine g_irem (pc := 51) hX d_Ch_keep_51 (by decide) ?_
  refine pf_Ch_16 (pc := 52) (w2 := zwKN c q y (va_up x.1 0 o, x.2.1, zrem (x.2.2 + (1 : Int32)) (6 : Int32))) hX 17 rfl rfl (su_KN_17_2 c q y (va_up x.1 0 o, x.2) (zrem (x.2.2 + (1 : Int32)) (6 : Int32))) d_Ch_keep_52 ?_
  refine g_aload_n (pc := 55) hX d_Ch_keep_55 rfl 1 rfl ?_
  refine g_bipush (pc := 56) hX d_Ch_keep_56 ze_6 ?_
  refine g_aload_n (pc := 58) hX d_Ch_keep_58 rfl 1 rfl ?_
  refine gf_Ch_24 (pc := 59) (v := .int x.2.1) hX 17 rfl rfl d_Ch_keep_59 ?_
  refine g_iconst (pc := 62) hX d_Ch_keep_62 zc_1 ?_
  refine g_iadd (pc := 63) hX d_Ch_keep_63 ?_
  refine g_mmin (pc := 64) hX zL_Ch_27 rfl rfl d_Ch_keep_64 ?_
  refine pf_Ch_24 (pc := 67) (w2 := zwKN c q y (va_up x.1 0 o, zmin (6 : Int32) (x.2.1 + (1 : Int32)), zrem (x.2.2 + (1 : Int32)) (6 : Int32))) hX 17 rfl rfl (su_KN_17_1 c q y (va_up x.1 0 o, x.2.1, zrem (x.2.2 + (1 : Int32)) (6 : Int32)) (zmin (6 : Int32) (x.2.1 + (1 : Int32)))) d_Ch_keep_67 ?_
  exact g_vret (pc := 70) hX hR d_Ch_keep_70
theorem w_Ch_keep_32_1 {X : zX} {c : zY} {q : Nat → Nat} {y : zsS} {x : zsK} {o : zsS} (e : k_St_become y (x.1 1) = some o) (hX : Ok X zr_Ch zb_Ch_keep 3 4 c) (hR : Rt X none none (zwKN c q y (va_up x.1 1 o, zmin (6 : Int32) (x.2.1 + (1 : Int32)), zrem (x.2.2 + (1 : Int32)) (6 : Int32)))) : Go X (zwKN c q y x) [(0, .ref (q 24)), (1, .ref (q 12))] 32 [.ref (q 72)] := by
  refine g_astore_n (pc := 32) (L' := [(2, .ref (q 72)), (0, .ref (q 24)), (1, .ref (q 12))]) hX d_Ch_keep_32 rfl rfl rfl ?_
  refine g_aload_n (pc := 33) hX d_Ch_keep_33 rfl 0 rfl ?_
  refine g_ifnull (pc := 34) hX d_Ch_keep_34 ?_
  refine g_aload_n (pc := 37) hX d_Ch_keep_37 rfl 0 rfl ?_
  refine g_aload_n (pc := 38) hX d_Ch_keep_38 rfl 2 rfl ?_
  refine zperm (zkp_1 c q y x) ?_
  refine g_cvV (pc := 39) (w1 := []) (w2 := zUN_1 c q y x ++ zVN_1 c q y x) (st := []) (w' := zwSS c (fun j => q (j + 60)) q y o ++ (zUN_1 c q y x ++ zVN_1 c q y x)) hX zk_St_become zs_St_become zL_Ch_20 (c_St_become c (fun j => q (j + 60)) q y (x.1 1) e) rfl rfl rfl rfl rfl rfl 12 5 rfl rfl rfl d_Ch_keep_39 ?_
  refine zperm (w' := zwKN c q y (va_up x.1 1 o, x.2)) (zkq_1 c q y x o) ?_
  refine g_aload_n (pc := 42) hX d_Ch_keep_42 rfl 1 rfl ?_
  refine g_aload_n (pc := 43) hX d_Ch_keep_43 rfl 1 rfl ?_
  refine gf_Ch_16 (pc := 44) (v := .int x.2.2) hX 17 rfl rfl d_Ch_keep_44 ?_
  refine g_iconst (pc := 47) hX d_Ch_keep_47 zc_1 ?_
  refine g_iadd (pc := 48) hX d_Ch_keep_48 ?_
  refine g_bipush (pc := 49) hX d_Ch_keep_49 ze_6 ?_
  refine g_irem (pc := 51) hX d_Ch_keep_51 (by decide) ?_
  refine pf_Ch_16 (pc := 52) (w2 := zwKN c q y (va_up x.1 1 o, x.2.1, zrem (x.2.2 + (1 : Int32)) (6 : Int32))) hX 17 rfl rfl (su_KN_17_2 c q y (va_up x.1 1 o, x.2) (zrem (x.2.2 + (1 : Int32)) (6 : Int32))) d_Ch_keep_52 ?_
  refine g_aload_n (pc := 55) hX d_Ch_keep_55 rfl 1 rfl ?_
  refine g_bipush (pc := 56) hX d_Ch_keep_56 ze_6 ?_
  refine g_aload_n (pc := 58) hX d_Ch_keep_58 rfl 1 rfl ?_
  refine gf_Ch_24 (pc := 59) (v := .int x.2.1) hX 17 rfl rfl d_Ch_keep_59 ?_
  refine g_iconst (pc := 62) hX d_Ch_keep_62 zc_1 ?_
  refine g_iadd (pc := 63) hX d_Ch_keep_63 ?_
  refine g_mmin (pc := 64) hX zL_Ch_27 rfl rfl d_Ch_keep_64 ?_
  refine pf_Ch_24 (pc := 67) (w2 := zwKN c q y (va_up x.1 1 o, zmin (6 : Int32) (x.2.1 + (1 : Int32)), zrem (x.2.2 + (1 : Int32)) (6 : Int32))) hX 17 rfl rfl (su_KN_17_1 c q y (va_up x.1 1 o, x.2.1, zrem (x.2.2 + (1 : Int32)) (6 : Int32)) (zmin (6 : Int32) (x.2.1 + (1 : Int32)))) d_Ch_keep_67 ?_
  exact g_vret (pc := 70) hX hR d_Ch_keep_70
theorem w_Ch_keep_32_2 {X : zX} {c : zY} {q : Nat → Nat} {y : zsS} {x : zsK} {o : zsS} (e : k_St_become y (x.1 2) = some o) (hX : Ok X zr_Ch zb_Ch_keep 3 4 c) (hR : Rt X none none (zwKN c q y (va_up x.1 2 o, zmin (6 : Int32) (x.2.1 + (1 : Int32)), zrem (x.2.2 + (1 : Int32)) (6 : Int32)))) : Go X (zwKN c q y x) [(0, .ref (q 24)), (1, .ref (q 12))] 32 [.ref (q 89)] := by
  refine g_astore_n (pc := 32) (L' := [(2, .ref (q 89)), (0, .ref (q 24)), (1, .ref (q 12))]) hX d_Ch_keep_32 rfl rfl rfl ?_
  refine g_aload_n (pc := 33) hX d_Ch_keep_33 rfl 0 rfl ?_
  refine g_ifnull (pc := 34) hX d_Ch_keep_34 ?_
  refine g_aload_n (pc := 37) hX d_Ch_keep_37 rfl 0 rfl ?_
  refine g_aload_n (pc := 38) hX d_Ch_keep_38 rfl 2 rfl ?_
  refine zperm (zkp_2 c q y x) ?_
  refine g_cvV (pc := 39) (w1 := []) (w2 := zUN_2 c q y x ++ zVN_2 c q y x) (st := []) (w' := zwSS c (fun j => q (j + 77)) q y o ++ (zUN_2 c q y x ++ zVN_2 c q y x)) hX zk_St_become zs_St_become zL_Ch_20 (c_St_become c (fun j => q (j + 77)) q y (x.1 2) e) rfl rfl rfl rfl rfl rfl 12 5 rfl rfl rfl d_Ch_keep_39 ?_
  refine zperm (w' := zwKN c q y (va_up x.1 2 o, x.2)) (zkq_2 c q y x o) ?_
  refine g_aload_n (pc := 42) hX d_Ch_keep_42 rfl 1 rfl ?_
  refine g_aload_n (pc := 43) hX d_Ch_keep_43 rfl 1 rfl ?_
  refine gf_Ch_16 (pc := 44) (v := .int x.2.2) hX 17 rfl rfl d_Ch_keep_44 ?_
  refine g_iconst (pc := 47) hX d_Ch_keep_47 zc_1 ?_
  refine g_iadd (pc := 48) hX d_Ch_keep_48 ?_
  refine g_bipush (pc := 49) hX d_Ch_keep_49 ze_6 ?_
  refine g_irem (pc := 51) hX d_Ch_keep_51 (by decide) ?_
  refine pf_Ch_16 (pc := 52) (w2 := zwKN c q y (va_up x.1 2 o, x.2.1, zrem (x.2.2 + (1 : Int32)) (6 : Int32))) hX 17 rfl rfl (su_KN_17_2 c q y (va_up x.1 2 o, x.2) (zrem (x.2.2 + (1 : Int32)) (6 : Int32))) d_Ch_keep_52 ?_
  refine g_aload_n (pc := 55) hX d_Ch_keep_55 rfl 1 rfl ?_
  refine g_bipush (pc := 56) hX d_Ch_keep_56 ze_6 ?_
  refine g_aload_n (pc := 58) hX d_Ch_keep_58 rfl 1 rfl ?_
  refine gf_Ch_24 (pc := 59) (v := .int x.2.1) hX 17 rfl rfl d_Ch_keep_59 ?_
  refine g_iconst (pc := 62) hX d_Ch_keep_62 zc_1 ?_
  refine g_iadd (pc := 63) hX d_Ch_keep_63 ?_
  refine g_mmin (pc := 64) hX zL_Ch_27 rfl rfl d_Ch_keep_64 ?_
  refine pf_Ch_24 (pc := 67) (w2 := zwKN c q y (va_up x.1 2 o, zmin (6 : Int32) (x.2.1 + (1 : Int32)), zrem (x.2.2 + (1 : Int32)) (6 : Int32))) hX 17 rfl rfl (su_KN_17_1 c q y (va_up x.1 2 o, x.2.1, zrem (x.2.2 + (1 : Int32)) (6 : Int32)) (zmin (6 : Int32) (x.2.1 + (1 : Int32)))) d_Ch_keep_67 ?_
  exact g_vret (pc := 70) hX hR d_Ch_keep_70
theorem w_Ch_keep_32_3 {X : zX} {c : zY} {q : Nat → Nat} {y : zsS} {x : zsK} {o : zsS} (e : k_St_become y (x.1 3) = some o) (hX : Ok X zr_Ch zb_Ch_keep 3 4 c) (hR : Rt X none none (zwKN c q y (va_up x.1 3 o, zmin (6 : Int32) (x.2.1 + (1 : Int32)), zrem (x.2.2 + (1 : Int32)) (6 : Int32)))) : Go X (zwKN c q y x) [(0, .ref (q 24)), (1, .ref (q 12))] 32 [.ref (q 106)] := by
  refine g_astore_n (pc := 32) (L' := [(2, .ref (q 106)), (0, .ref (q 24)), (1, .ref (q 12))]) hX d_Ch_keep_32 rfl rfl rfl ?_
  refine g_aload_n (pc := 33) hX d_Ch_keep_33 rfl 0 rfl ?_
  refine g_ifnull (pc := 34) hX d_Ch_keep_34 ?_
  refine g_aload_n (pc := 37) hX d_Ch_keep_37 rfl 0 rfl ?_
  refine g_aload_n (pc := 38) hX d_Ch_keep_38 rfl 2 rfl ?_
  refine zperm (zkp_3 c q y x) ?_
  refine g_cvV (pc := 39) (w1 := []) (w2 := zUN_3 c q y x ++ zVN_3 c q y x) (st := []) (w' := zwSS c (fun j => q (j + 94)) q y o ++ (zUN_3 c q y x ++ zVN_3 c q y x)) hX zk_St_become zs_St_become zL_Ch_20 (c_St_become c (fun j => q (j + 94)) q y (x.1 3) e) rfl rfl rfl rfl rfl rfl 12 5 rfl rfl rfl d_Ch_keep_39 ?_
  refine zperm (w' := zwKN c q y (va_up x.1 3 o, x.2)) (zkq_3 c q y x o) ?_
  refine g_aload_n (pc := 42) hX d_Ch_keep_42 rfl 1 rfl ?_
  refine g_aload_n (pc := 43) hX d_Ch_keep_43 rfl 1 rfl ?_
  refine gf_Ch_16 (pc := 44) (v := .int x.2.2) hX 17 rfl rfl d_Ch_keep_44 ?_
  refine g_iconst (pc := 47) hX d_Ch_keep_47 zc_1 ?_
  refine g_iadd (pc := 48) hX d_Ch_keep_48 ?_
  refine g_bipush (pc := 49) hX d_Ch_keep_49 ze_6 ?_
  refine g_irem (pc := 51) hX d_Ch_keep_51 (by decide) ?_
  refine pf_Ch_16 (pc := 52) (w2 := zwKN c q y (va_up x.1 3 o, x.2.1, zrem (x.2.2 + (1 : Int32)) (6 : Int32))) hX 17 rfl rfl (su_KN_17_2 c q y (va_up x.1 3 o, x.2) (zrem (x.2.2 + (1 : Int32)) (6 : Int32))) d_Ch_keep_52 ?_
  refine g_aload_n (pc := 55) hX d_Ch_keep_55 rfl 1 rfl ?_
  refine g_bipush (pc := 56) hX d_Ch_keep_56 ze_6 ?_
  refine g_aload_n (pc := 58) hX d_Ch_keep_58 rfl 1 rfl ?_
  refine gf_Ch_24 (pc := 59) (v := .int x.2.1) hX 17 rfl rfl d_Ch_keep_59 ?_
  refine g_iconst (pc := 62) hX d_Ch_keep_62 zc_1 ?_
  refine g_iadd (pc := 63) hX d_Ch_keep_63 ?_
  refine g_mmin (pc := 64) hX zL_Ch_27 rfl rfl d_Ch_keep_64 ?_
  refine pf_Ch_24 (pc := 67) (w2 := zwKN c q y (va_up x.1 3 o, zmin (6 : Int32) (x.2.1 + (1 : Int32)), zrem (x.2.2 + (1 : Int32)) (6 : Int32))) hX 17 rfl rfl (su_KN_17_1 c q y (va_up x.1 3 o, x.2.1, zrem (x.2.2 + (1 : Int32)) (6 : Int32)) (zmin (6 : Int32) (x.2.1 + (1 : Int32)))) d_Ch_keep_67 ?_
  exact g_vret (pc := 70) hX hR d_Ch_keep_70
theorem w_Ch_keep_32_4 {X : zX} {c : zY} {q : Nat → Nat} {y : zsS} {x : zsK} {o : zsS} (e : k_St_become y (x.1 4) = some o) (hX : Ok X zr_Ch zb_Ch_keep 3 4 c) (hR : Rt X none none (zwKN c q y (va_up x.1 4 o, zmin (6 : Int32) (x.2.1 + (1 : Int32)), zrem (x.2.2 + (1 : Int32)) (6 : Int32)))) : Go X (zwKN c q y x) [(0, .ref (q 24)), (1, .ref (q 12))] 32 [.ref (q 123)] := by
  refine g_astore_n (pc := 32) (L' := [(2, .ref (q 123)), (0, .ref (q 24)), (1, .ref (q 12))]) hX d_Ch_keep_32 rfl rfl rfl ?_
  refine g_aload_n (pc := 33) hX d_Ch_keep_33 rfl 0 rfl ?_
  refine g_ifnull (pc := 34) hX d_Ch_keep_34 ?_
  refine g_aload_n (pc := 37) hX d_Ch_keep_37 rfl 0 rfl ?_
  refine g_aload_n (pc := 38) hX d_Ch_keep_38 rfl 2 rfl ?_
  refine zperm (zkp_4 c q y x) ?_
  refine g_cvV (pc := 39) (w1 := []) (w2 := zUN_4 c q y x ++ zVN_4 c q y x) (st := []) (w' := zwSS c (fun j => q (j + 111)) q y o ++ (zUN_4 c q y x ++ zVN_4 c q y x)) hX zk_St_become zs_St_become zL_Ch_20 (c_St_become c (fun j => q (j + 111)) q y (x.1 4) e) rfl rfl rfl rfl rfl rfl 12 5 rfl rfl rfl d_Ch_keep_39 ?_
  refine zperm (w' := zwKN c q y (va_up x.1 4 o, x.2)) (zkq_4 c q y x o) ?_
  refine g_aload_n (pc := 42) hX d_Ch_keep_42 rfl 1 rfl ?_
  refine g_aload_n (pc := 43) hX d_Ch_keep_43 rfl 1 rfl ?_
  refine gf_Ch_16 (pc := 44) (v := .int x.2.2) hX 17 rfl rfl d_Ch_keep_44 ?_
  refine g_iconst (pc := 47) hX d_Ch_keep_47 zc_1 ?_
  refine g_iadd (pc := 48) hX d_Ch_keep_48 ?_
  refine g_bipush (pc := 49) hX d_Ch_keep_49 ze_6 ?_
  refine g_irem (pc := 51) hX d_Ch_keep_51 (by decide) ?_
  refine pf_Ch_16 (pc := 52) (w2 := zwKN c q y (va_up x.1 4 o, x.2.1, zrem (x.2.2 + (1 : Int32)) (6 : Int32))) hX 17 rfl rfl (su_KN_17_2 c q y (va_up x.1 4 o, x.2) (zrem (x.2.2 + (1 : Int32)) (6 : Int32))) d_Ch_keep_52 ?_
  refine g_aload_n (pc := 55) hX d_Ch_keep_55 rfl 1 rfl ?_
  refine g_bipush (pc := 56) hX d_Ch_keep_56 ze_6 ?_
  refine g_aload_n (pc := 58) hX d_Ch_keep_58 rfl 1 rfl ?_
  refine gf_Ch_24 (pc := 59) (v := .int x.2.1) hX 17 rfl rfl d_Ch_keep_59 ?_
  refine g_iconst (pc := 62) hX d_Ch_keep_62 zc_1 ?_
  refine g_iadd (pc := 63) hX d_Ch_keep_63 ?_
  refine g_mmin (pc := 64) hX zL_Ch_27 rfl rfl d_Ch_keep_64 ?_
  refine pf_Ch_24 (pc := 67) (w2 := zwKN c q y (va_up x.1 4 o, zmin (6 : Int32) (x.2.1 + (1 : Int32)), zrem (x.2.2 + (1 : Int32)) (6 : Int32))) hX 17 rfl rfl (su_KN_17_1 c q y (va_up x.1 4 o, x.2.1, zrem (x.2.2 + (1 : Int32)) (6 : Int32)) (zmin (6 : Int32) (x.2.1 + (1 : Int32)))) d_Ch_keep_67 ?_
  exact g_vret (pc := 70) hX hR d_Ch_keep_70
theorem w_Ch_keep_32_5 {X : zX} {c : zY} {q : Nat → Nat} {y : zsS} {x : zsK} {o : zsS} (e : k_St_become y (x.1 5) = some o) (hX : Ok X zr_Ch zb_Ch_keep 3 4 c) (hR : Rt X none none (zwKN c q y (va_up x.1 5 o, zmin (6 : Int32) (x.2.1 + (1 : Int32)), zrem (x.2.2 + (1 : Int32)) (6 : Int32)))) : Go X (zwKN c q y x) [(0, .ref (q 24)), (1, .ref (q 12))] 32 [.ref (q 140)] := by
  refine g_astore_n (pc := 32) (L' := [(2, .ref (q 140)), (0, .ref (q 24)), (1, .ref (q 12))]) hX d_Ch_keep_32 rfl rfl rfl ?_
  refine g_aload_n (pc := 33) hX d_Ch_keep_33 rfl 0 rfl ?_
  refine g_ifnull (pc := 34) hX d_Ch_keep_34 ?_
  refine g_aload_n (pc := 37) hX d_Ch_keep_37 rfl 0 rfl ?_
  refine g_aload_n (pc := 38) hX d_Ch_keep_38 rfl 2 rfl ?_
  refine zperm (zkp_5 c q y x) ?_
  refine g_cvV (pc := 39) (w1 := []) (w2 := zUN_5 c q y x ++ zVN_5 c q y x) (st := []) (w' := zwSS c (fun j => q (j + 128)) q y o ++ (zUN_5 c q y x ++ zVN_5 c q y x)) hX zk_St_become zs_St_become zL_Ch_20 (c_St_become c (fun j => q (j + 128)) q y (x.1 5) e) rfl rfl rfl rfl rfl rfl 12 5 rfl rfl rfl d_Ch_keep_39 ?_
  refine zperm (w' := zwKN c q y (va_up x.1 5 o, x.2)) (zkq_5 c q y x o) ?_
  refine g_aload_n (pc := 42) hX d_Ch_keep_42 rfl 1 rfl ?_
  refine g_aload_n (pc := 43) hX d_Ch_keep_43 rfl 1 rfl ?_
  refine gf_Ch_16 (pc := 44) (v := .int x.2.2) hX 17 rfl rfl d_Ch_keep_44 ?_
  refine g_iconst (pc := 47) hX d_Ch_keep_47 zc_1 ?_
  refine g_iadd (pc := 48) hX d_Ch_keep_48 ?_
  refine g_bipush (pc := 49) hX d_Ch_keep_49 ze_6 ?_
  refine g_irem (pc := 51) hX d_Ch_keep_51 (by decide) ?_
  refine pf_Ch_16 (pc := 52) (w2 := zwKN c q y (va_up x.1 5 o, x.2.1, zrem (x.2.2 + (1 : Int32)) (6 : Int32))) hX 17 rfl rfl (su_KN_17_2 c q y (va_up x.1 5 o, x.2) (zrem (x.2.2 + (1 : Int32)) (6 : Int32))) d_Ch_keep_52 ?_
  refine g_aload_n (pc := 55) hX d_Ch_keep_55 rfl 1 rfl ?_
  refine g_bipush (pc := 56) hX d_Ch_keep_56 ze_6 ?_
  refine g_aload_n (pc := 58) hX d_Ch_keep_58 rfl 1 rfl ?_
  refine gf_Ch_24 (pc := 59) (v := .int x.2.1) hX 17 rfl rfl d_Ch_keep_59 ?_
  refine g_iconst (pc := 62) hX d_Ch_keep_62 zc_1 ?_
  refine g_iadd (pc := 63) hX d_Ch_keep_63 ?_
  refine g_mmin (pc := 64) hX zL_Ch_27 rfl rfl d_Ch_keep_64 ?_
  refine pf_Ch_24 (pc := 67) (w2 := zwKN c q y (va_up x.1 5 o, zmin (6 : Int32) (x.2.1 + (1 : Int32)), zrem (x.2.2 + (1 : Int32)) (6 : Int32))) hX 17 rfl rfl (su_KN_17_1 c q y (va_up x.1 5 o, x.2.1, zrem (x.2.2 + (1 : Int32)) (6 : Int32)) (zmin (6 : Int32) (x.2.1 + (1 : Int32)))) d_Ch_keep_67 ?_
  exact g_vret (pc := 70) hX hR d_Ch_keep_70
theorem c_Ch_keep (c : zY) (q : Nat → Nat) (y : zsS) (x : zsK) {out : zsK} (h : k_Ch_keep y x = some out) : KM zy_Ch_keep zb_Ch_keep 3 none 4 c [.ref (q 24), .ref (q 12)] (zwKN c q y x) (zwKN c q y out) none := zK_of zp_Ch rfl (Nat.le_of_ble_eq_true rfl) (zq_KN c q y _ _) (fun X hX hR => by
  show Go X (zwKN c q y x) [(0, .ref (q 24)), (1, .ref (q 12))] 0 []
  rw [k_Ch_keep] at h
  refine g_aload_n (pc := 0) hX d_Ch_keep_0 rfl 0 rfl ?_
  refine gf_Ch_16 (pc := 1) (v := .int x.2.2) hX 17 rfl rfl d_Ch_keep_1 ?_
  refine g_if_lt (pc := 4) (tgt := 31) hX d_Ch_keep_4 (by decide) h (fun c1 h => ?_) (fun c1 h => ?_)
  · cases h
    exact w_Ch_keep_31 hX hR
  refine g_aload_n (pc := 7) hX d_Ch_keep_7 rfl 0 rfl ?_
  refine gf_Ch_16 (pc := 8) (v := .int x.2.2) hX 17 rfl rfl d_Ch_keep_8 ?_
  refine g_aload_n (pc := 11) hX d_Ch_keep_11 rfl 0 rfl ?_
  refine gf_Ch_11 (pc := 12) (v := .ref (q 25)) hX 17 rfl rfl d_Ch_keep_12 ?_
  refine g_alenS (pc := 15) (v := (6 : Int32)) hX 18 rfl rfl d_Ch_keep_15 ?_
  refine g_icmp_ge (pc := 16) (tgt := 31) hX d_Ch_keep_16 (by decide) h (fun c2 h => ?_) (fun c2 h => ?_)
  · cases h
    exact w_Ch_keep_31 hX hR
  refine g_aload_n (pc := 19) hX d_Ch_keep_19 rfl 0 rfl ?_
  refine gf_Ch_11 (pc := 20) (v := .ref (q 25)) hX 17 rfl rfl d_Ch_keep_20 ?_
  refine g_aload_n (pc := 23) hX d_Ch_keep_23 rfl 0 rfl ?_
  refine gf_Ch_16 (pc := 24) (v := .int x.2.2) hX 17 rfl rfl d_Ch_keep_24 ?_
  obtain ⟨xf, xs, xn⟩ := x
  obtain ⟨o, e, h⟩ := zbind h
  cases h
  rcases z6 c1 c2 with g | g | g | g | g | g <;> dsimp only at g <;> subst g
  · refine g_aald (pc := 27) (f := zeR q) (i := (0 : Int32)) hX 18 rfl (by decide) d_Ch_keep_27 ?_
    show Go X (zwKN c q y (xf, xs, (0 : Int32))) [(0, .ref (q 24)), (1, .ref (q 12))] 28 [.ref (q 55)]
    refine g_goto (pc := 28) (tgt := 32) hX d_Ch_keep_28 (by decide) ?_
    exact w_Ch_keep_32_0 e hX hR
  · refine g_aald (pc := 27) (f := zeR q) (i := (1 : Int32)) hX 18 rfl (by decide) d_Ch_keep_27 ?_
    show Go X (zwKN c q y (xf, xs, (1 : Int32))) [(0, .ref (q 24)), (1, .ref (q 12))] 28 [.ref (q 72)]
    refine g_goto (pc := 28) (tgt := 32) hX d_Ch_keep_28 (by decide) ?_
    exact w_Ch_keep_32_1 e hX hR
  · refine g_aald (pc := 27) (f := zeR q) (i := (2 : Int32)) hX 18 rfl (by decide) d_Ch_keep_27 ?_
    show Go X (zwKN c q y (xf, xs, (2 : Int32))) [(0, .ref (q 24)), (1, .ref (q 12))] 28 [.ref (q 89)]
    refine g_goto (pc := 28) (tgt := 32) hX d_Ch_keep_28 (by decide) ?_
    exact w_Ch_keep_32_2 e hX hR
  · refine g_aald (pc := 27) (f := zeR q) (i := (3 : Int32)) hX 18 rfl (by decide) d_Ch_keep_27 ?_
    show Go X (zwKN c q y (xf, xs, (3 : Int32))) [(0, .ref (q 24)), (1, .ref (q 12))] 28 [.ref (q 106)]
    refine g_goto (pc := 28) (tgt := 32) hX d_Ch_keep_28 (by decide) ?_
    exact w_Ch_keep_32_3 e hX hR
  · refine g_aald (pc := 27) (f := zeR q) (i := (4 : Int32)) hX 18 rfl (by decide) d_Ch_keep_27 ?_
    show Go X (zwKN c q y (xf, xs, (4 : Int32))) [(0, .ref (q 24)), (1, .ref (q 12))] 28 [.ref (q 123)]
    refine g_goto (pc := 28) (tgt := 32) hX d_Ch_keep_28 (by decide) ?_
    exact w_Ch_keep_32_4 e hX hR
  · refine g_aald (pc := 27) (f := zeR q) (i := (5 : Int32)) hX 18 rfl (by decide) d_Ch_keep_27 ?_
    show Go X (zwKN c q y (xf, xs, (5 : Int32))) [(0, .ref (q 24)), (1, .ref (q 12))] 28 [.ref (q 140)]
    refine g_goto (pc := 28) (tgt := 32) hX d_Ch_keep_28 (by decide) ?_
    exact w_Ch_keep_32_5 e hX hR)
theorem d_Ch_takeBack_0 : decode zb_Ch_takeBack 0 = .ok (.aload_n 0, 1) := by decide +kernel
theorem d_Ch_takeBack_1 : decode zb_Ch_takeBack 1 = .ok (.getfield 16, 3) := by decide +kernel
theorem d_Ch_takeBack_4 : decode zb_Ch_takeBack 4 = .ok (.bipush 6, 2) := by decide +kernel
theorem d_Ch_takeBack_6 : decode zb_Ch_takeBack 6 = .ok (.iadd, 1) := by decide +kernel
theorem d_Ch_takeBack_7 : decode zb_Ch_takeBack 7 = .ok (.iconst 1, 1) := by decide +kernel
theorem d_Ch_takeBack_8 : decode zb_Ch_takeBack 8 = .ok (.isub, 1) := by decide +kernel
theorem d_Ch_takeBack_9 : decode zb_Ch_takeBack 9 = .ok (.bipush 6, 2) := by decide +kernel
theorem d_Ch_takeBack_11 : decode zb_Ch_takeBack 11 = .ok (.irem, 1) := by decide +kernel
theorem d_Ch_takeBack_12 : decode zb_Ch_takeBack 12 = .ok (.istore_n 2, 1) := by decide +kernel
theorem d_Ch_takeBack_13 : decode zb_Ch_takeBack 13 = .ok (.iload_n 2, 1) := by decide +kernel
theorem d_Ch_takeBack_14 : decode zb_Ch_takeBack 14 = .ok (.ifCond .lt 21, 3) := by decide +kernel
theorem d_Ch_takeBack_17 : decode zb_Ch_takeBack 17 = .ok (.iload_n 2, 1) := by decide +kernel
theorem d_Ch_takeBack_18 : decode zb_Ch_takeBack 18 = .ok (.aload_n 0, 1) := by decide +kernel
theorem d_Ch_takeBack_19 : decode zb_Ch_takeBack 19 = .ok (.getfield 11, 3) := by decide +kernel
theorem d_Ch_takeBack_22 : decode zb_Ch_takeBack 22 = .ok (.arraylength, 1) := by decide +kernel
theorem d_Ch_takeBack_23 : decode zb_Ch_takeBack 23 = .ok (.if_icmp .ge 12, 3) := by decide +kernel
theorem d_Ch_takeBack_26 : decode zb_Ch_takeBack 26 = .ok (.aload_n 0, 1) := by decide +kernel
theorem d_Ch_takeBack_27 : decode zb_Ch_takeBack 27 = .ok (.getfield 11, 3) := by decide +kernel
theorem d_Ch_takeBack_30 : decode zb_Ch_takeBack 30 = .ok (.iload_n 2, 1) := by decide +kernel
theorem d_Ch_takeBack_31 : decode zb_Ch_takeBack 31 = .ok (.aaload, 1) := by decide +kernel
theorem d_Ch_takeBack_32 : decode zb_Ch_takeBack 32 = .ok (.goto 4, 3) := by decide +kernel
theorem d_Ch_takeBack_35 : decode zb_Ch_takeBack 35 = .ok (.aconst_null, 1) := by decide +kernel
theorem d_Ch_takeBack_36 : decode zb_Ch_takeBack 36 = .ok (.astore_n 3, 1) := by decide +kernel
theorem d_Ch_takeBack_37 : decode zb_Ch_takeBack 37 = .ok (.aload_n 3, 1) := by decide +kernel
theorem d_Ch_takeBack_38 : decode zb_Ch_takeBack 38 = .ok (.ifnull 30, 3) := by decide +kernel
theorem d_Ch_takeBack_41 : decode zb_Ch_takeBack 41 = .ok (.aload_n 0, 1) := by decide +kernel
theorem d_Ch_takeBack_42 : decode zb_Ch_takeBack 42 = .ok (.getfield 24, 3) := by decide +kernel
theorem d_Ch_takeBack_45 : decode zb_Ch_takeBack 45 = .ok (.ifCond .le 23, 3) := by decide +kernel
theorem d_Ch_takeBack_48 : decode zb_Ch_takeBack 48 = .ok (.aload_n 1, 1) := by decide +kernel
theorem d_Ch_takeBack_49 : decode zb_Ch_takeBack 49 = .ok (.aload_n 3, 1) := by decide +kernel
theorem d_Ch_takeBack_50 : decode zb_Ch_takeBack 50 = .ok (.invokevirtual 20, 3) := by decide +kernel
theorem d_Ch_takeBack_53 : decode zb_Ch_takeBack 53 = .ok (.aload_n 0, 1) := by decide +kernel
theorem d_Ch_takeBack_54 : decode zb_Ch_takeBack 54 = .ok (.iload_n 2, 1) := by decide +kernel
theorem d_Ch_takeBack_55 : decode zb_Ch_takeBack 55 = .ok (.putfield 16, 3) := by decide +kernel
theorem d_Ch_takeBack_58 : decode zb_Ch_takeBack 58 = .ok (.aload_n 0, 1) := by decide +kernel
theorem d_Ch_takeBack_59 : decode zb_Ch_takeBack 59 = .ok (.dup, 1) := by decide +kernel
theorem d_Ch_takeBack_60 : decode zb_Ch_takeBack 60 = .ok (.getfield 24, 3) := by decide +kernel
theorem d_Ch_takeBack_63 : decode zb_Ch_takeBack 63 = .ok (.iconst 1, 1) := by decide +kernel
theorem d_Ch_takeBack_64 : decode zb_Ch_takeBack 64 = .ok (.isub, 1) := by decide +kernel
theorem d_Ch_takeBack_65 : decode zb_Ch_takeBack 65 = .ok (.putfield 24, 3) := by decide +kernel
theorem d_Ch_takeBack_68 : decode zb_Ch_takeBack 68 = .ok (.return_, 1) := by decide +kernel
def k_Ch_takeBack (x : zsS × zsK) : Option (zsS × zsK) := (if (zrem (x.2.2.2 + (6 : Int32) - (1 : Int32)) (6 : Int32)) < 0 then some x else (if (zrem (x.2.2.2 + (6 : Int32) - (1 : Int32)) (6 : Int32)) < (6 : Int32) then (if 0 < x.2.2.1 then (k_St_become (x.2.1 (zrem (x.2.2.2 + (6 : Int32) - (1 : Int32)) (6 : Int32)).toNatClampNeg) x.1).bind fun o => some (o, (x.2.1, x.2.2.1 - (1 : Int32), (zrem (x.2.2.2 + (6 : Int32) - (1 : Int32)) (6 : Int32)))) else some x) else some x))
theorem w_Ch_takeBack_35 {X : zX} {c : zY} {q : Nat → Nat} {x : zsS × zsK} {l2 : Int32} (hX : Ok X zr_Ch zb_Ch_takeBack 4 4 c) (hR : Rt X none none (zwKT c q x)) : Go X (zwKT c q x) [(2, .int l2), (0, .ref (q 24)), (1, .ref (q 12))] 35 [] := by
  refine g_null (pc := 35) hX d_Ch_takeBack_35 ?_
  refine g_astoreN_n (pc := 36) (L' := [(3, .null), (2, .int l2), (0, .ref (q 24)), (1, .ref (q 12))]) hX d_Ch_takeBack_36 rfl rfl rfl ?_
  refine g_aloadN_n (pc := 37) hX d_Ch_takeBack_37 rfl 0 rfl ?_
  refine g_ifnullN (pc := 38) (tgt := 68) hX d_Ch_takeBack_38 (by decide) ?_
  exact g_vret (pc := 68) hX hR d_Ch_takeBack_68
theorem w_Ch_takeBack_36_0 {X : zX} {c : zY} {q : Nat → Nat} {x : zsS × zsK} {l2 : Int32} {out : zsS × zsK} (h : (if 0 < x.2.2.1 then (k_St_become (x.2.1 0) x.1).bind fun o => some (o, (x.2.1, x.2.2.1 - (1 : Int32), l2)) else some x) = some out) (hX : Ok X zr_Ch zb_Ch_takeBack 4 4 c) (hR : Rt X none none (zwKT c q out)) : Go X (zwKT c q x) [(2, .int l2), (0, .ref (q 24)), (1, .ref (q 12))] 36 [.ref (q 55)] := by
  refine g_astore_n (pc := 36) (L' := [(3, .ref (q 55)), (2, .int l2), (0, .ref (q 24)), (1, .ref (q 12))]) hX d_Ch_takeBack_36 rfl rfl rfl ?_
  refine g_aload_n (pc := 37) hX d_Ch_takeBack_37 rfl 0 rfl ?_
  refine g_ifnull (pc := 38) hX d_Ch_takeBack_38 ?_
  refine g_aload_n (pc := 41) hX d_Ch_takeBack_41 rfl 2 rfl ?_
  refine gf_Ch_24 (pc := 42) (v := .int x.2.2.1) hX 17 rfl rfl d_Ch_takeBack_42 ?_
  refine g_if_le (pc := 45) (tgt := 68) hX d_Ch_takeBack_45 (by decide) h (fun c1 h => ?_) (fun c1 h => ?_)
  · cases h
    exact g_vret (pc := 68) hX hR d_Ch_takeBack_68
  obtain ⟨o, e, h⟩ := zbind h
  cases h
  refine g_aload_n (pc := 48) hX d_Ch_takeBack_48 rfl 3 rfl ?_
  refine g_aload_n (pc := 49) hX d_Ch_takeBack_49 rfl 0 rfl ?_
  refine zperm (zkr_0 c q x) ?_
  refine g_cvV (pc := 50) (w1 := []) (w2 := zUT_0 c q x ++ zVT_0 c q x) (st := []) (w' := zwSS c q (fun j => q (j + 43)) (x.2.1 0) o ++ (zUT_0 c q x ++ zVT_0 c q x)) hX zk_St_become zs_St_become zL_Ch_20 (c_St_become c q (fun j => q (j + 43)) (x.2.1 0) x.1 e) rfl rfl rfl rfl rfl rfl 12 5 rfl rfl rfl d_Ch_takeBack_50 ?_
  refine zperm (w' := zwKT c q (o, x.2)) (zks_0 c q x o) ?_
  refine g_aload_n (pc := 53) hX d_Ch_takeBack_53 rfl 2 rfl ?_
  refine g_iload_n (pc := 54) hX d_Ch_takeBack_54 rfl 1 rfl ?_
  refine pf_Ch_16 (pc := 55) (w2 := zwKT c q (o, (x.2.1, x.2.2.1, l2))) hX 17 rfl rfl (su_KT_17_2 c q (o, x.2) l2) d_Ch_takeBack_55 ?_
  refine g_aload_n (pc := 58) hX d_Ch_takeBack_58 rfl 2 rfl ?_
  refine g_dup (pc := 59) hX d_Ch_takeBack_59 rfl ?_
  refine gf_Ch_24 (pc := 60) (v := .int x.2.2.1) hX 17 rfl rfl d_Ch_takeBack_60 ?_
  refine g_iconst (pc := 63) hX d_Ch_takeBack_63 zc_1 ?_
  refine g_isub (pc := 64) hX d_Ch_takeBack_64 ?_
  refine pf_Ch_24 (pc := 65) (w2 := zwKT c q (o, (x.2.1, x.2.2.1 - (1 : Int32), l2))) hX 17 rfl rfl (su_KT_17_1 c q (o, (x.2.1, x.2.2.1, l2)) (x.2.2.1 - (1 : Int32))) d_Ch_takeBack_65 ?_
  exact g_vret (pc := 68) hX hR d_Ch_takeBack_68
theorem w_Ch_takeBack_36_1 {X : zX} {c : zY} {q : Nat → Nat} {x : zsS × zsK} {l2 : Int32} {out : zsS × zsK} (h : (if 0 < x.2.2.1 then (k_St_become (x.2.1 1) x.1).bind fun o => some (o, (x.2.1, x.2.2.1 - (1 : Int32), l2)) else some x) = some out) (hX : Ok X zr_Ch zb_Ch_takeBack 4 4 c) (hR : Rt X none none (zwKT c q out)) : Go X (zwKT c q x) [(2, .int l2), (0, .ref (q 24)), (1, .ref (q 12))] 36 [.ref (q 72)] := by
  refine g_astore_n (pc := 36) (L' := [(3, .ref (q 72)), (2, .int l2), (0, .ref (q 24)), (1, .ref (q 12))]) hX d_Ch_takeBack_36 rfl rfl rfl ?_
  refine g_aload_n (pc := 37) hX d_Ch_takeBack_37 rfl 0 rfl ?_
  refine g_ifnull (pc := 38) hX d_Ch_takeBack_38 ?_
  refine g_aload_n (pc := 41) hX d_Ch_takeBack_41 rfl 2 rfl ?_
  refine gf_Ch_24 (pc := 42) (v := .int x.2.2.1) hX 17 rfl rfl d_Ch_takeBack_42 ?_
  refine g_if_le (pc := 45) (tgt := 68) hX d_Ch_takeBack_45 (by decide) h (fun c1 h => ?_) (fun c1 h => ?_)
  · cases h
    exact g_vret (pc := 68) hX hR d_Ch_takeBack_68
  obtain ⟨o, e, h⟩ := zbind h
  cases h
  refine g_aload_n (pc := 48) hX d_Ch_takeBack_48 rfl 3 rfl ?_
  refine g_aload_n (pc := 49) hX d_Ch_takeBack_49 rfl 0 rfl ?_
  refine zperm (zkr_1 c q x) ?_
  refine g_cvV (pc := 50) (w1 := []) (w2 := zUT_1 c q x ++ zVT_1 c q x) (st := []) (w' := zwSS c q (fun j => q (j + 60)) (x.2.1 1) o ++ (zUT_1 c q x ++ zVT_1 c q x)) hX zk_St_become zs_St_become zL_Ch_20 (c_St_become c q (fun j => q (j + 60)) (x.2.1 1) x.1 e) rfl rfl rfl rfl rfl rfl 12 5 rfl rfl rfl d_Ch_takeBack_50 ?_
  refine zperm (w' := zwKT c q (o, x.2)) (zks_1 c q x o) ?_
  refine g_aload_n (pc := 53) hX d_Ch_takeBack_53 rfl 2 rfl ?_
  refine g_iload_n (pc := 54) hX d_Ch_takeBack_54 rfl 1 rfl ?_
  refine pf_Ch_16 (pc := 55) (w2 := zwKT c q (o, (x.2.1, x.2.2.1, l2))) hX 17 rfl rfl (su_KT_17_2 c q (o, x.2) l2) d_Ch_takeBack_55 ?_
  refine g_aload_n (pc := 58) hX d_Ch_takeBack_58 rfl 2 rfl ?_
  refine g_dup (pc := 59) hX d_Ch_takeBack_59 rfl ?_
  refine gf_Ch_24 (pc := 60) (v := .int x.2.2.1) hX 17 rfl rfl d_Ch_takeBack_60 ?_
  refine g_iconst (pc := 63) hX d_Ch_takeBack_63 zc_1 ?_
  refine g_isub (pc := 64) hX d_Ch_takeBack_64 ?_
  refine pf_Ch_24 (pc := 65) (w2 := zwKT c q (o, (x.2.1, x.2.2.1 - (1 : Int32), l2))) hX 17 rfl rfl (su_KT_17_1 c q (o, (x.2.1, x.2.2.1, l2)) (x.2.2.1 - (1 : Int32))) d_Ch_takeBack_65 ?_
  exact g_vret (pc := 68) hX hR d_Ch_takeBack_68
theorem w_Ch_takeBack_36_2 {X : zX} {c : zY} {q : Nat → Nat} {x : zsS × zsK} {l2 : Int32} {out : zsS × zsK} (h : (if 0 < x.2.2.1 then (k_St_become (x.2.1 2) x.1).bind fun o => some (o, (x.2.1, x.2.2.1 - (1 : Int32), l2)) else some x) = some out) (hX : Ok X zr_Ch zb_Ch_takeBack 4 4 c) (hR : Rt X none none (zwKT c q out)) : Go X (zwKT c q x) [(2, .int l2), (0, .ref (q 24)), (1, .ref (q 12))] 36 [.ref (q 89)] := by
  refine g_astore_n (pc := 36) (L' := [(3, .ref (q 89)), (2, .int l2), (0, .ref (q 24)), (1, .ref (q 12))]) hX d_Ch_takeBack_36 rfl rfl rfl ?_
  refine g_aload_n (pc := 37) hX d_Ch_takeBack_37 rfl 0 rfl ?_
  refine g_ifnull (pc := 38) hX d_Ch_takeBack_38 ?_
  refine g_aload_n (pc := 41) hX d_Ch_takeBack_41 rfl 2 rfl ?_
  refine gf_Ch_24 (pc := 42) (v := .int x.2.2.1) hX 17 rfl rfl d_Ch_takeBack_42 ?_
  refine g_if_le (pc := 45) (tgt := 68) hX d_Ch_takeBack_45 (by decide) h (fun c1 h => ?_) (fun c1 h => ?_)
  · cases h
    exact g_vret (pc := 68) hX hR d_Ch_takeBack_68
  obtain ⟨o, e, h⟩ := zbind h
  cases h
  refine g_aload_n (pc := 48) hX d_Ch_takeBack_48 rfl 3 rfl ?_
  refine g_aload_n (pc := 49) hX d_Ch_takeBack_49 rfl 0 rfl ?_
  refine zperm (zkr_2 c q x) ?_
  refine g_cvV (pc := 50) (w1 := []) (w2 := zUT_2 c q x ++ zVT_2 c q x) (st := []) (w' := zwSS c q (fun j => q (j + 77)) (x.2.1 2) o ++ (zUT_2 c q x ++ zVT_2 c q x)) hX zk_St_become zs_St_become zL_Ch_20 (c_St_become c q (fun j => q (j + 77)) (x.2.1 2) x.1 e) rfl rfl rfl rfl rfl rfl 12 5 rfl rfl rfl d_Ch_takeBack_50 ?_
  refine zperm (w' := zwKT c q (o, x.2)) (zks_2 c q x o) ?_
  refine g_aload_n (pc := 53) hX d_Ch_takeBack_53 rfl 2 rfl ?_
  refine g_iload_n (pc := 54) hX d_Ch_takeBack_54 rfl 1 rfl ?_
  refine pf_Ch_16 (pc := 55) (w2 := zwKT c q (o, (x.2.1, x.2.2.1, l2))) hX 17 rfl rfl (su_KT_17_2 c q (o, x.2) l2) d_Ch_takeBack_55 ?_
  refine g_aload_n (pc := 58) hX d_Ch_takeBack_58 rfl 2 rfl ?_
  refine g_dup (pc := 59) hX d_Ch_takeBack_59 rfl ?_
  refine gf_Ch_24 (pc := 60) (v := .int x.2.2.1) hX 17 rfl rfl d_Ch_takeBack_60 ?_
  refine g_iconst (pc := 63) hX d_Ch_takeBack_63 zc_1 ?_
  refine g_isub (pc := 64) hX d_Ch_takeBack_64 ?_
  refine pf_Ch_24 (pc := 65) (w2 := zwKT c q (o, (x.2.1, x.2.2.1 - (1 : Int32), l2))) hX 17 rfl rfl (su_KT_17_1 c q (o, (x.2.1, x.2.2.1, l2)) (x.2.2.1 - (1 : Int32))) d_Ch_takeBack_65 ?_
  exact g_vret (pc := 68) hX hR d_Ch_takeBack_68
theorem w_Ch_takeBack_36_3 {X : zX} {c : zY} {q : Nat → Nat} {x : zsS × zsK} {l2 : Int32} {out : zsS × zsK} (h : (if 0 < x.2.2.1 then (k_St_become (x.2.1 3) x.1).bind fun o => some (o, (x.2.1, x.2.2.1 - (1 : Int32), l2)) else some x) = some out) (hX : Ok X zr_Ch zb_Ch_takeBack 4 4 c) (hR : Rt X none none (zwKT c q out)) : Go X (zwKT c q x) [(2, .int l2), (0, .ref (q 24)), (1, .ref (q 12))] 36 [.ref (q 106)] := by
  refine g_astore_n (pc := 36) (L' := [(3, .ref (q 106)), (2, .int l2), (0, .ref (q 24)), (1, .ref (q 12))]) hX d_Ch_takeBack_36 rfl rfl rfl ?_
  refine g_aload_n (pc := 37) hX d_Ch_takeBack_37 rfl 0 rfl ?_
  refine g_ifnull (pc := 38) hX d_Ch_takeBack_38 ?_
  refine g_aload_n (pc := 41) hX d_Ch_takeBack_41 rfl 2 rfl ?_
  refine gf_Ch_24 (pc := 42) (v := .int x.2.2.1) hX 17 rfl rfl d_Ch_takeBack_42 ?_
  refine g_if_le (pc := 45) (tgt := 68) hX d_Ch_takeBack_45 (by decide) h (fun c1 h => ?_) (fun c1 h => ?_)
  · cases h
    exact g_vret (pc := 68) hX hR d_Ch_takeBack_68
  obtain ⟨o, e, h⟩ := zbind h
  cases h
  refine g_aload_n (pc := 48) hX d_Ch_takeBack_48 rfl 3 rfl ?_
  refine g_aload_n (pc := 49) hX d_Ch_takeBack_49 rfl 0 rfl ?_
  refine zperm (zkr_3 c q x) ?_
  refine g_cvV (pc := 50) (w1 := []) (w2 := zUT_3 c q x ++ zVT_3 c q x) (st := []) (w' := zwSS c q (fun j => q (j + 94)) (x.2.1 3) o ++ (zUT_3 c q x ++ zVT_3 c q x)) hX zk_St_become zs_St_become zL_Ch_20 (c_St_become c q (fun j => q (j + 94)) (x.2.1 3) x.1 e) rfl rfl rfl rfl rfl rfl 12 5 rfl rfl rfl d_Ch_takeBack_50 ?_
  refine zperm (w' := zwKT c q (o, x.2)) (zks_3 c q x o) ?_
  refine g_aload_n (pc := 53) hX d_Ch_takeBack_53 rfl 2 rfl ?_
  refine g_iload_n (pc := 54) hX d_Ch_takeBack_54 rfl 1 rfl ?_
  refine pf_Ch_16 (pc := 55) (w2 := zwKT c q (o, (x.2.1, x.2.2.1, l2))) hX 17 rfl rfl (su_KT_17_2 c q (o, x.2) l2) d_Ch_takeBack_55 ?_
  refine g_aload_n (pc := 58) hX d_Ch_takeBack_58 rfl 2 rfl ?_
  refine g_dup (pc := 59) hX d_Ch_takeBack_59 rfl ?_
  refine gf_Ch_24 (pc := 60) (v := .int x.2.2.1) hX 17 rfl rfl d_Ch_takeBack_60 ?_
  refine g_iconst (pc := 63) hX d_Ch_takeBack_63 zc_1 ?_
  refine g_isub (pc := 64) hX d_Ch_takeBack_64 ?_
  refine pf_Ch_24 (pc := 65) (w2 := zwKT c q (o, (x.2.1, x.2.2.1 - (1 : Int32), l2))) hX 17 rfl rfl (su_KT_17_1 c q (o, (x.2.1, x.2.2.1, l2)) (x.2.2.1 - (1 : Int32))) d_Ch_takeBack_65 ?_
  exact g_vret (pc := 68) hX hR d_Ch_takeBack_68
theorem w_Ch_takeBack_36_4 {X : zX} {c : zY} {q : Nat → Nat} {x : zsS × zsK} {l2 : Int32} {out : zsS × zsK} (h : (if 0 < x.2.2.1 then (k_St_become (x.2.1 4) x.1).bind fun o => some (o, (x.2.1, x.2.2.1 - (1 : Int32), l2)) else some x) = some out) (hX : Ok X zr_Ch zb_Ch_takeBack 4 4 c) (hR : Rt X none none (zwKT c q out)) : Go X (zwKT c q x) [(2, .int l2), (0, .ref (q 24)), (1, .ref (q 12))] 36 [.ref (q 123)] := by
  refine g_astore_n (pc := 36) (L' := [(3, .ref (q 123)), (2, .int l2), (0, .ref (q 24)), (1, .ref (q 12))]) hX d_Ch_takeBack_36 rfl rfl rfl ?_
  refine g_aload_n (pc := 37) hX d_Ch_takeBack_37 rfl 0 rfl ?_
  refine g_ifnull (pc := 38) hX d_Ch_takeBack_38 ?_
  refine g_aload_n (pc := 41) hX d_Ch_takeBack_41 rfl 2 rfl ?_
  refine gf_Ch_24 (pc := 42) (v := .int x.2.2.1) hX 17 rfl rfl d_Ch_takeBack_42 ?_
  refine g_if_le (pc := 45) (tgt := 68) hX d_Ch_takeBack_45 (by decide) h (fun c1 h => ?_) (fun c1 h => ?_)
  · cases h
    exact g_vret (pc := 68) hX hR d_Ch_takeBack_68
  obtain ⟨o, e, h⟩ := zbind h
  cases h
  refine g_aload_n (pc := 48) hX d_Ch_takeBack_48 rfl 3 rfl ?_
  refine g_aload_n (pc := 49) hX d_Ch_takeBack_49 rfl 0 rfl ?_
  refine zperm (zkr_4 c q x) ?_
  refine g_cvV (pc := 50) (w1 := []) (w2 := zUT_4 c q x ++ zVT_4 c q x) (st := []) (w' := zwSS c q (fun j => q (j + 111)) (x.2.1 4) o ++ (zUT_4 c q x ++ zVT_4 c q x)) hX zk_St_become zs_St_become zL_Ch_20 (c_St_become c q (fun j => q (j + 111)) (x.2.1 4) x.1 e) rfl rfl rfl rfl rfl rfl 12 5 rfl rfl rfl d_Ch_takeBack_50 ?_
  refine zperm (w' := zwKT c q (o, x.2)) (zks_4 c q x o) ?_
  refine g_aload_n (pc := 53) hX d_Ch_takeBack_53 rfl 2 rfl ?_
  refine g_iload_n (pc := 54) hX d_Ch_takeBack_54 rfl 1 rfl ?_
  refine pf_Ch_16 (pc := 55) (w2 := zwKT c q (o, (x.2.1, x.2.2.1, l2))) hX 17 rfl rfl (su_KT_17_2 c q (o, x.2) l2) d_Ch_takeBack_55 ?_
  refine g_aload_n (pc := 58) hX d_Ch_takeBack_58 rfl 2 rfl ?_
  refine g_dup (pc := 59) hX d_Ch_takeBack_59 rfl ?_
  refine gf_Ch_24 (pc := 60) (v := .int x.2.2.1) hX 17 rfl rfl d_Ch_takeBack_60 ?_
  refine g_iconst (pc := 63) hX d_Ch_takeBack_63 zc_1 ?_
  refine g_isub (pc := 64) hX d_Ch_takeBack_64 ?_
  refine pf_Ch_24 (pc := 65) (w2 := zwKT c q (o, (x.2.1, x.2.2.1 - (1 : Int32), l2))) hX 17 rfl rfl (su_KT_17_1 c q (o, (x.2.1, x.2.2.1, l2)) (x.2.2.1 - (1 : Int32))) d_Ch_takeBack_65 ?_
  exact g_vret (pc := 68) hX hR d_Ch_takeBack_68
theorem w_Ch_takeBack_36_5 {X : zX} {c : zY} {q : Nat → Nat} {x : zsS × zsK} {l2 : Int32} {out : zsS × zsK} (h : (if 0 < x.2.2.1 then (k_St_become (x.2.1 5) x.1).bind fun o => some (o, (x.2.1, x.2.2.1 - (1 : Int32), l2)) else some x) = some out) (hX : Ok X zr_Ch zb_Ch_takeBack 4 4 c) (hR : Rt X none none (zwKT c q out)) : Go X (zwKT c q x) [(2, .int l2), (0, .ref (q 24)), (1, .ref (q 12))] 36 [.ref (q 140)] := by
  refine g_astore_n (pc := 36) (L' := [(3, .ref (q 140)), (2, .int l2), (0, .ref (q 24)), (1, .ref (q 12))]) hX d_Ch_takeBack_36 rfl rfl rfl ?_
  refine g_aload_n (pc := 37) hX d_Ch_takeBack_37 rfl 0 rfl ?_
  refine g_ifnull (pc := 38) hX d_Ch_takeBack_38 ?_
  refine g_aload_n (pc := 41) hX d_Ch_takeBack_41 rfl 2 rfl ?_
  refine gf_Ch_24 (pc := 42) (v := .int x.2.2.1) hX 17 rfl rfl d_Ch_takeBack_42 ?_
  refine g_if_le (pc := 45) (tgt := 68) hX d_Ch_takeBack_45 (by decide) h (fun c1 h => ?_) (fun c1 h => ?_)
  · cases h
    exact g_vret (pc := 68) hX hR d_Ch_takeBack_68
  obtain ⟨o, e, h⟩ := zbind h
  cases h
  refine g_aload_n (pc := 48) hX d_Ch_takeBack_48 rfl 3 rfl ?_
  refine g_aload_n (pc := 49) hX d_Ch_takeBack_49 rfl 0 rfl ?_
  refine zperm (zkr_5 c q x) ?_
  refine g_cvV (pc := 50) (w1 := []) (w2 := zUT_5 c q x ++ zVT_5 c q x) (st := []) (w' := zwSS c q (fun j => q (j + 128)) (x.2.1 5) o ++ (zUT_5 c q x ++ zVT_5 c q x)) hX zk_St_become zs_St_become zL_Ch_20 (c_St_become c q (fun j => q (j + 128)) (x.2.1 5) x.1 e) rfl rfl rfl rfl rfl rfl 12 5 rfl rfl rfl d_Ch_takeBack_50 ?_
  refine zperm (w' := zwKT c q (o, x.2)) (zks_5 c q x o) ?_
  refine g_aload_n (pc := 53) hX d_Ch_takeBack_53 rfl 2 rfl ?_
  refine g_iload_n (pc := 54) hX d_Ch_takeBack_54 rfl 1 rfl ?_
  refine pf_Ch_16 (pc := 55) (w2 := zwKT c q (o, (x.2.1, x.2.2.1, l2))) hX 17 rfl rfl (su_KT_17_2 c q (o, x.2) l2) d_Ch_takeBack_55 ?_
  refine g_aload_n (pc := 58) hX d_Ch_takeBack_58 rfl 2 rfl ?_
  refine g_dup (pc := 59) hX d_Ch_takeBack_59 rfl ?_
  refine gf_Ch_24 (pc := 60) (v := .int x.2.2.1) hX 17 rfl rfl d_Ch_takeBack_60 ?_
  refine g_iconst (pc := 63) hX d_Ch_takeBack_63 zc_1 ?_
  refine g_isub (pc := 64) hX d_Ch_takeBack_64 ?_
  refine pf_Ch_24 (pc := 65) (w2 := zwKT c q (o, (x.2.1, x.2.2.1 - (1 : Int32), l2))) hX 17 rfl rfl (su_KT_17_1 c q (o, (x.2.1, x.2.2.1, l2)) (x.2.2.1 - (1 : Int32))) d_Ch_takeBack_65 ?_
  exact g_vret (pc := 68) hX hR d_Ch_takeBack_68
theorem c_Ch_takeBack (c : zY) (q : Nat → Nat) (x : zsS × zsK) {out : zsS × zsK} (h : k_Ch_takeBack x = some out) : KM zy_Ch_takeBack zb_Ch_takeBack 4 none 4 c [.ref (q 24), .ref (q 12)] (zwKT c q x) (zwKT c q out) none := zK_of zp_Ch rfl (Nat.le_of_ble_eq_true rfl) (zq_KT c q _ _) (fun X hX hR => by
  show Go X (zwKT c q x) [(0, .ref (q 24)), (1, .ref (q 12))] 0 []
  rw [k_Ch_takeBack] at h
  refine g_aload_n (pc := 0) hX d_Ch_takeBack_0 rfl 0 rfl ?_
  refine gf_Ch_16 (pc := 1) (v := .int x.2.2.2) hX 17 rfl rfl d_Ch_takeBack_1 ?_
  refine g_bipush (pc := 4) hX d_Ch_takeBack_4 ze_6 ?_
  refine g_iadd (pc := 6) hX d_Ch_takeBack_6 ?_
  refine g_iconst (pc := 7) hX d_Ch_takeBack_7 zc_1 ?_
  refine g_isub (pc := 8) hX d_Ch_takeBack_8 ?_
  refine g_bipush (pc := 9) hX d_Ch_takeBack_9 ze_6 ?_
  refine g_irem (pc := 11) hX d_Ch_takeBack_11 (by decide) ?_
  generalize (zrem (x.2.2.2 + (6 : Int32) - (1 : Int32)) (6 : Int32)) = l2 at h ⊢
  refine g_istore_n (pc := 12) (L' := [(2, .int l2), (0, .ref (q 24)), (1, .ref (q 12))]) hX d_Ch_takeBack_12 rfl rfl rfl ?_
  refine g_iload_n (pc := 13) hX d_Ch_takeBack_13 rfl 0 rfl ?_
  refine g_if_lt (pc := 14) (tgt := 35) hX d_Ch_takeBack_14 (by decide) h (fun c1 h => ?_) (fun c1 h => ?_)
  · cases h
    exact w_Ch_takeBack_35 hX hR
  refine g_iload_n (pc := 17) hX d_Ch_takeBack_17 rfl 0 rfl ?_
  refine g_aload_n (pc := 18) hX d_Ch_takeBack_18 rfl 1 rfl ?_
  refine gf_Ch_11 (pc := 19) (v := .ref (q 25)) hX 17 rfl rfl d_Ch_takeBack_19 ?_
  refine g_alenS (pc := 22) (v := (6 : Int32)) hX 18 rfl rfl d_Ch_takeBack_22 ?_
  refine g_icmp_ge (pc := 23) (tgt := 35) hX d_Ch_takeBack_23 (by decide) h (fun c2 h => ?_) (fun c2 h => ?_)
  · cases h
    exact w_Ch_takeBack_35 hX hR
  refine g_aload_n (pc := 26) hX d_Ch_takeBack_26 rfl 1 rfl ?_
  refine gf_Ch_11 (pc := 27) (v := .ref (q 25)) hX 17 rfl rfl d_Ch_takeBack_27 ?_
  refine g_iload_n (pc := 30) hX d_Ch_takeBack_30 rfl 0 rfl ?_
  rcases z6 c1 c2 with g | g | g | g | g | g <;> subst g
  · refine g_aald (pc := 31) (f := zeR q) (i := (0 : Int32)) hX 18 rfl (by decide) d_Ch_takeBack_31 ?_
    show Go X (zwKT c q x) [(2, .int (0 : Int32)), (0, .ref (q 24)), (1, .ref (q 12))] 32 [.ref (q 55)]
    refine g_goto (pc := 32) (tgt := 36) hX d_Ch_takeBack_32 (by decide) ?_
    exact w_Ch_takeBack_36_0 h hX hR
  · refine g_aald (pc := 31) (f := zeR q) (i := (1 : Int32)) hX 18 rfl (by decide) d_Ch_takeBack_31 ?_
    show Go X (zwKT c q x) [(2, .int (1 : Int32)), (0, .ref (q 24)), (1, .ref (q 12))] 32 [.ref (q 72)]
    refine g_goto (pc := 32) (tgt := 36) hX d_Ch_takeBack_32 (by decide) ?_
    exact w_Ch_takeBack_36_1 h hX hR
  · refine g_aald (pc := 31) (f := zeR q) (i := (2 : Int32)) hX 18 rfl (by decide) d_Ch_takeBack_31 ?_
    show Go X (zwKT c q x) [(2, .int (2 : Int32)), (0, .ref (q 24)), (1, .ref (q 12))] 32 [.ref (q 89)]
    refine g_goto (pc := 32) (tgt := 36) hX d_Ch_takeBack_32 (by decide) ?_
    exact w_Ch_takeBack_36_2 h hX hR
  · refine g_aald (pc := 31) (f := zeR q) (i := (3 : Int32)) hX 18 rfl (by decide) d_Ch_takeBack_31 ?_
    show Go X (zwKT c q x) [(2, .int (3 : Int32)), (0, .ref (q 24)), (1, .ref (q 12))] 32 [.ref (q 106)]
    refine g_goto (pc := 32) (tgt := 36) hX d_Ch_takeBack_32 (by decide) ?_
    exact w_Ch_takeBack_36_3 h hX hR
  · refine g_aald (pc := 31) (f := zeR q) (i := (4 : Int32)) hX 18 rfl (by decide) d_Ch_takeBack_31 ?_
    show Go X (zwKT c q x) [(2, .int (4 : Int32)), (0, .ref (q 24)), (1, .ref (q 12))] 32 [.ref (q 123)]
    refine g_goto (pc := 32) (tgt := 36) hX d_Ch_takeBack_32 (by decide) ?_
    exact w_Ch_takeBack_36_4 h hX hR
  · refine g_aald (pc := 31) (f := zeR q) (i := (5 : Int32)) hX 18 rfl (by decide) d_Ch_takeBack_31 ?_
    show Go X (zwKT c q x) [(2, .int (5 : Int32)), (0, .ref (q 24)), (1, .ref (q 12))] 32 [.ref (q 140)]
    refine g_goto (pc := 32) (tgt := 36) hX d_Ch_takeBack_32 (by decide) ?_
    exact w_Ch_takeBack_36_5 h hX hR)
theorem d_Ch_forget_0 : decode zb_Ch_forget 0 = .ok (.aload_n 0, 1) := by decide +kernel
theorem d_Ch_forget_1 : decode zb_Ch_forget 1 = .ok (.iconst 0, 1) := by decide +kernel
theorem d_Ch_forget_2 : decode zb_Ch_forget 2 = .ok (.putfield 24, 3) := by decide +kernel
theorem d_Ch_forget_5 : decode zb_Ch_forget 5 = .ok (.return_, 1) := by decide +kernel
def k_Ch_forget (x : zsK) : Option (zsK) := some ((x.1, (0 : Int32), x.2.2))
set_option maxRecDepth 20000 in
theorem c_Ch_forget (c : zY) (q : Nat → Nat) (x : zsK) {out : zsK} (h : k_Ch_forget x = some out) : KM zy_Ch_forget zb_Ch_forget 1 none 0 c [.ref ((q 24))] (zwK c q x) (zwK c q out) none := zK_of zp_Ch rfl (Nat.le_of_ble_eq_true rfl) (zq_Ch c q _ _) (fun X hX hR => by
  show Go X (zwK c q x) [(0, .ref ((q 24)))] 0 []
  rw [k_Ch_forget] at h
  refine g_aload_n (pc := 0) hX d_Ch_forget_0 rfl 0 rfl ?_
  refine g_iconst (pc := 1) hX d_Ch_forget_1 zc_0 ?_
  refine pf_Ch_24 (pc := 2) (w2 := (zwK c q ((x.1, (0 : Int32), x.2.2)))) hX 0 rfl rfl (su_Ch_0_1 c q x ((0 : Int32))) d_Ch_forget_2 ?_
  obtain rfl := Option.some.inj h
  exact g_vret (pc := 5) hX hR d_Ch_forget_5)
