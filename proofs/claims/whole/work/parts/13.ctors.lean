theorem d_Ta_init_0 : decode zb_Ta_init 0 = .ok (.aload_n 0, 1) := by decide +kernel
theorem d_Ta_init_1 : decode zb_Ta_init 1 = .ok (.invokespecial 1, 3) := by decide +kernel
theorem d_Ta_init_4 : decode zb_Ta_init 4 = .ok (.aload_n 0, 1) := by decide +kernel
theorem d_Ta_init_5 : decode zb_Ta_init 5 = .ok (.iload_n 2, 1) := by decide +kernel
theorem d_Ta_init_6 : decode zb_Ta_init 6 = .ok (.putfield 7, 3) := by decide +kernel
theorem d_Ta_init_9 : decode zb_Ta_init 9 = .ok (.aload_n 0, 1) := by decide +kernel
theorem d_Ta_init_10 : decode zb_Ta_init 10 = .ok (.iconst 0, 1) := by decide +kernel
theorem d_Ta_init_11 : decode zb_Ta_init 11 = .ok (.iload_n 1, 1) := by decide +kernel
theorem d_Ta_init_12 : decode zb_Ta_init 12 = .ok (.iload_n 2, 1) := by decide +kernel
theorem d_Ta_init_13 : decode zb_Ta_init 13 = .ok (.imul, 1) := by decide +kernel
theorem d_Ta_init_14 : decode zb_Ta_init 14 = .ok (.invokestatic 13, 3) := by decide +kernel
theorem d_Ta_init_17 : decode zb_Ta_init 17 = .ok (.newarray .int, 2) := by decide +kernel
theorem d_Ta_init_19 : decode zb_Ta_init 19 = .ok (.putfield 19, 3) := by decide +kernel
theorem d_Ta_init_22 : decode zb_Ta_init 22 = .ok (.aload_n 0, 1) := by decide +kernel
theorem d_Ta_init_23 : decode zb_Ta_init 23 = .ok (.iload_n 3, 1) := by decide +kernel
theorem d_Ta_init_24 : decode zb_Ta_init 24 = .ok (.putfield 23, 3) := by decide +kernel
theorem d_Ta_init_27 : decode zb_Ta_init 27 = .ok (.return_, 1) := by decide +kernel
set_option maxRecDepth 20000 in
theorem c_Ta_init (c : zY) (a0 : Nat) (r w z : Int32) (n : Nat) (hz : ¬ zmax (0 : Int32) (r * w) < 0) (hn : (zmax (0 : Int32) (r * w)).toNatClampNeg = n) (hbig : Nat.ble n 1000000 = true) : KC zy_Ta_init zb_Ta_init 4 1 1 n c [.ref a0, .int r, .int w, .int z] ((a0, .inr (6, [.int 0, .null, .int 0])) :: []) (fun w2 => ∃ (q1 : Nat), w2 = ((a0, .inr (6, [.int w, .ref q1, .int z])) :: ((q1, .inl (c.1, n, .inl zf0)) :: []))) := zC_of zp_Ta rfl rfl (Nat.le_of_ble_eq_true rfl) (fun X sz hX hR hV => by
  show Go X ((a0, .inr (6, [.int 0, .null, .int 0])) :: []) [(0, .ref a0), (1, .int r), (2, .int w), (3, .int z)] 0 []
  refine zUp_0 ?_
  have hO := hX.up0
  refine g_aload_n (pc := 0) hO.ok d_Ta_init_0 rfl 0 rfl ?_
  refine g_obj (pc := 1) hO.ok zL_Ta_1 rfl rfl d_Ta_init_1 ?_
  refine g_aload_n (pc := 4) hO.ok d_Ta_init_4 rfl 0 rfl ?_
  refine g_iload_n (pc := 5) hO.ok d_Ta_init_5 rfl 2 rfl ?_
  refine g_putR (pc := 6) (X0 := X) (k1 := 0) (k2 := 0) (C := zr_Ta) (T := zf_Ta) (N := 3) (ci := 6) (w' := ((a0, .inr (6, [.int w, .null, .int 0])) :: [])) rfl hR zt_Ta zo_Ta zn_Ta hO.ok zi_Ta 0 rfl zH_Ta_7 rfl rfl rfl rfl rfl rfl 0 rfl rfl rfl d_Ta_init_6 ?_
  refine g_aload_n (pc := 9) hO.ok d_Ta_init_9 rfl 0 rfl ?_
  refine g_iconst (pc := 10) hO.ok d_Ta_init_10 zc_0 ?_
  refine g_iload_n (pc := 11) hO.ok d_Ta_init_11 rfl 1 rfl ?_
  refine g_iload_n (pc := 12) hO.ok d_Ta_init_12 rfl 2 rfl ?_
  refine g_imul (pc := 13) hO.ok d_Ta_init_13 ?_
  refine g_mmax (pc := 14) hO.ok zL_Ta_13 rfl rfl d_Ta_init_14 ?_
  refine g_newIF (pc := 17) hO n hz hn hbig rfl (Nat.ble_eq.mpr (Nat.le_refl n)) d_Ta_init_17 1 n rfl (Nat.zero_add n) (fun q1 => ?_)
  have hO := hX.up 1 n rfl (Nat.ble_eq.mpr (Nat.le_refl n))
  show Go (zUp X 1 n) ((q1, .inl (c.1, n, .inl zf0)) :: ((a0, .inr (6, [.int w, .null, .int 0])) :: [])) [(0, .ref a0), (1, .int r), (2, .int w), (3, .int z)] 19 [.ref q1, .ref a0]
  refine g_putR (pc := 19) (X0 := X) (k1 := 1) (k2 := n) (C := zr_Ta) (T := zf_Ta) (N := 3) (ci := 6) (w' := ((q1, .inl (c.1, n, .inl zf0)) :: ((a0, .inr (6, [.int w, .ref q1, .int 0])) :: []))) rfl hR zt_Ta zo_Ta zn_Ta hO.ok zi_Ta 1 rfl zH_Ta_19 rfl rfl rfl rfl rfl rfl 1 rfl rfl rfl d_Ta_init_19 ?_
  refine g_aload_n (pc := 22) hO.ok d_Ta_init_22 rfl 0 rfl ?_
  refine g_iload_n (pc := 23) hO.ok d_Ta_init_23 rfl 3 rfl ?_
  refine pf_Ta_23 (pc := 24) (w2 := ((q1, .inl (c.1, n, .inl zf0)) :: ((a0, .inr (6, [.int w, .ref q1, .int z])) :: []))) hO.ok 1 rfl rfl rfl d_Ta_init_24 ?_
  refine g_sub (w' := ((a0, .inr (6, [.int w, .ref q1, .int z])) :: ((q1, .inl (c.1, n, .inl zf0)) :: []))) [1, 0] rfl rfl ?_
  exact g_cret (X0 := X) rfl hR hO.ok ⟨q1, rfl⟩ d_Ta_init_27)
theorem d_Jo_init_0 : decode zb_Jo_init 0 = .ok (.aload_n 0, 1) := by decide +kernel
theorem d_Jo_init_1 : decode zb_Jo_init 1 = .ok (.invokespecial 3, 3) := by decide +kernel
theorem d_Jo_init_4 : decode zb_Jo_init 4 = .ok (.aload_n 0, 1) := by decide +kernel
theorem d_Jo_init_5 : decode zb_Jo_init 5 = .ok (.sipush 900, 3) := by decide +kernel
theorem d_Jo_init_8 : decode zb_Jo_init 8 = .ok (.newarray .int, 2) := by decide +kernel
theorem d_Jo_init_10 : decode zb_Jo_init 10 = .ok (.putfield 11, 3) := by decide +kernel
theorem d_Jo_init_13 : decode zb_Jo_init 13 = .ok (.return_, 1) := by decide +kernel
set_option maxRecDepth 20000 in
theorem c_Jo_init (c : zY) (a0 : Nat) : KC zy_Jo_init zb_Jo_init 1 1 1 900 c [.ref a0] ((a0, .inr (4, [.null, .int 0])) :: []) (fun w2 => ∃ (q1 : Nat), w2 = ((a0, .inr (4, [.ref q1, .int 0])) :: ((q1, .inl (c.1, 900, .inl zf0)) :: []))) := zC_of zp_Jo rfl rfl (Nat.le_of_ble_eq_true rfl) (fun X sz hX hR hV => by
  show Go X ((a0, .inr (4, [.null, .int 0])) :: []) [(0, .ref a0)] 0 []
  refine zUp_0 ?_
  have hO := hX.up0
  refine g_aload_n (pc := 0) hO.ok d_Jo_init_0 rfl 0 rfl ?_
  refine g_obj (pc := 1) hO.ok zL_Jo_3 rfl rfl d_Jo_init_1 ?_
  refine g_aload_n (pc := 4) hO.ok d_Jo_init_4 rfl 0 rfl ?_
  refine g_sipush (pc := 5) hO.ok d_Jo_init_5 zh_900 ?_
  refine g_newIF (pc := 8) hO 900 (by decide) (by decide) rfl rfl rfl d_Jo_init_8 1 900 rfl rfl (fun q1 => ?_)
  have hO := hX.up 1 900 rfl rfl
  show Go (zUp X 1 900) ((q1, .inl (c.1, 900, .inl zf0)) :: ((a0, .inr (4, [.null, .int 0])) :: [])) [(0, .ref a0)] 10 [.ref q1, .ref a0]
  refine g_putR (pc := 10) (X0 := X) (k1 := 1) (k2 := 900) (C := zr_Jo) (T := zf_Jo) (N := 2) (ci := 4) (w' := ((q1, .inl (c.1, 900, .inl zf0)) :: ((a0, .inr (4, [.ref q1, .int 0])) :: []))) rfl hR zt_Jo zo_Jo zn_Jo hO.ok zi_Jo 0 rfl zH_Jo_11 rfl rfl rfl rfl rfl rfl 1 rfl rfl rfl d_Jo_init_10 ?_
  refine g_sub (w' := ((a0, .inr (4, [.ref q1, .int 0])) :: ((q1, .inl (c.1, 900, .inl zf0)) :: []))) [1, 0] rfl rfl ?_
  exact g_cret (X0 := X) rfl hR hO.ok ⟨q1, rfl⟩ d_Jo_init_13)
theorem d_Co_init_0 : decode zb_Co_init 0 = .ok (.aload_n 0, 1) := by decide +kernel
theorem d_Co_init_1 : decode zb_Co_init 1 = .ok (.invokespecial 3, 3) := by decide +kernel
theorem d_Co_init_4 : decode zb_Co_init 4 = .ok (.aload_n 0, 1) := by decide +kernel
theorem d_Co_init_5 : decode zb_Co_init 5 = .ok (.new 9, 3) := by decide +kernel
theorem d_Co_init_8 : decode zb_Co_init 8 = .ok (.dup, 1) := by decide +kernel
theorem d_Co_init_9 : decode zb_Co_init 9 = .ok (.sipush 384, 3) := by decide +kernel
theorem d_Co_init_12 : decode zb_Co_init 12 = .ok (.bipush 6, 2) := by decide +kernel
theorem d_Co_init_14 : decode zb_Co_init 14 = .ok (.iconst 0, 1) := by decide +kernel
theorem d_Co_init_15 : decode zb_Co_init 15 = .ok (.invokespecial 13, 3) := by decide +kernel
theorem d_Co_init_18 : decode zb_Co_init 18 = .ok (.putfield 16, 3) := by decide +kernel
theorem d_Co_init_21 : decode zb_Co_init 21 = .ok (.aload_n 0, 1) := by decide +kernel
theorem d_Co_init_22 : decode zb_Co_init 22 = .ok (.bipush 8, 2) := by decide +kernel
theorem d_Co_init_24 : decode zb_Co_init 24 = .ok (.newarray .int, 2) := by decide +kernel
theorem d_Co_init_26 : decode zb_Co_init 26 = .ok (.putfield 20, 3) := by decide +kernel
theorem d_Co_init_29 : decode zb_Co_init 29 = .ok (.aload_n 0, 1) := by decide +kernel
theorem d_Co_init_30 : decode zb_Co_init 30 = .ok (.aload_n 1, 1) := by decide +kernel
theorem d_Co_init_31 : decode zb_Co_init 31 = .ok (.putfield 24, 3) := by decide +kernel
theorem d_Co_init_34 : decode zb_Co_init 34 = .ok (.return_, 1) := by decide +kernel
set_option maxRecDepth 20000 in
theorem c_Co_init (c : zY) (a0 : Nat) (j : Nat) : KC zy_Co_init zb_Co_init 2 2 3 2315 c [.ref a0, .ref j] ((a0, .inr (1, [.null, .null, .null])) :: []) (fun w2 => ∃ (q1 u2 q3 : Nat), w2 = ((a0, .inr (1, [.ref q1, .ref j, .ref q3])) :: ((q1, .inr (6, [.int (6 : Int32), .ref u2, .int (0 : Int32)])) :: ((u2, .inl (c.1, 2304, .inl zf0)) :: ((q3, .inl (c.1, 8, .inl zf0)) :: []))))) := zC_of zp_Co rfl rfl (Nat.le_of_ble_eq_true rfl) (fun X sz hX hR hV => by
  show Go X ((a0, .inr (1, [.null, .null, .null])) :: []) [(0, .ref a0), (1, .ref j)] 0 []
  refine zUp_0 ?_
  have hO := hX.up0
  refine g_aload_n (pc := 0) hO.ok d_Co_init_0 rfl 0 rfl ?_
  refine g_obj (pc := 1) hO.ok zL_Co_3 rfl rfl d_Co_init_1 ?_
  refine g_aload_n (pc := 4) hO.ok d_Co_init_4 rfl 0 rfl ?_
  refine g_newF (pc := 5) (C := zr_Ta) (T := zf_Ta) (N := 3) (ci := 6) (fs := [.int 0, .null, .int 0]) hO zi_Ta zt_Ta zo_Ta zG_Co_9 zN_Ta zI_Ta rfl (by decide +kernel) rfl rfl d_Co_init_5 1 3 rfl rfl (fun q1 => ?_)
  have hO := hX.up 1 3 rfl rfl
  refine g_dup (pc := 8) hO.ok d_Co_init_8 rfl ?_
  refine g_sipush (pc := 9) hO.ok d_Co_init_9 zh_384 ?_
  refine g_bipush (pc := 12) hO.ok d_Co_init_12 ze_6 ?_
  refine g_iconst (pc := 14) hO.ok d_Co_init_14 zc_0 ?_
  refine g_ctorF (pc := 15) (st := [.ref q1, .ref a0]) (w2 := ((a0, .inr (1, [.null, .null, .null])) :: [])) hO hV zk_Ta_init rfl zL_Co_13 (c_Ta_init c q1 (384 : Int32) (6 : Int32) (0 : Int32) 2304 (by decide) (by decide) rfl) rfl rfl rfl rfl rfl rfl rfl rfl d_Co_init_15 2 2307 rfl rfl (fun w9 h9 => ?_)
  obtain ⟨u2, rfl⟩ := h9
  have hO := hX.up 2 2307 rfl rfl
  show Go (zUp X 2 2307) ((q1, .inr (6, [.int (6 : Int32), .ref u2, .int (0 : Int32)])) :: ((u2, .inl (c.1, 2304, .inl zf0)) :: ((a0, .inr (1, [.null, .null, .null])) :: []))) [(0, .ref a0), (1, .ref j)] 18 [.ref q1, .ref a0]
  refine g_putR (pc := 18) (X0 := X) (k1 := 2) (k2 := 2307) (C := zr_Co) (T := zf_Co) (N := 3) (ci := 1) (w' := ((q1, .inr (6, [.int (6 : Int32), .ref u2, .int (0 : Int32)])) :: ((u2, .inl (c.1, 2304, .inl zf0)) :: ((a0, .inr (1, [.ref q1, .null, .null])) :: [])))) rfl hR zt_Co zo_Co zn_Co hO.ok zi_Co 0 rfl zH_Co_16 rfl rfl rfl rfl rfl rfl 2 rfl rfl rfl d_Co_init_18 ?_
  refine g_aload_n (pc := 21) hO.ok d_Co_init_21 rfl 0 rfl ?_
  refine g_bipush (pc := 22) hO.ok d_Co_init_22 ze_8 ?_
  refine g_newIF (pc := 24) hO 8 (by decide) (by decide) rfl rfl rfl d_Co_init_24 3 2315 rfl rfl (fun q3 => ?_)
  have hO := hX.up 3 2315 rfl rfl
  show Go (zUp X 3 2315) ((q3, .inl (c.1, 8, .inl zf0)) :: ((q1, .inr (6, [.int (6 : Int32), .ref u2, .int (0 : Int32)])) :: ((u2, .inl (c.1, 2304, .inl zf0)) :: ((a0, .inr (1, [.ref q1, .null, .null])) :: [])))) [(0, .ref a0), (1, .ref j)] 26 [.ref q3, .ref a0]
  refine g_putR (pc := 26) (X0 := X) (k1 := 3) (k2 := 2315) (C := zr_Co) (T := zf_Co) (N := 3) (ci := 1) (w' := ((q3, .inl (c.1, 8, .inl zf0)) :: ((q1, .inr (6, [.int (6 : Int32), .ref u2, .int (0 : Int32)])) :: ((u2, .inl (c.1, 2304, .inl zf0)) :: ((a0, .inr (1, [.ref q1, .null, .ref q3])) :: []))))) rfl hR zt_Co zo_Co zn_Co hO.ok zi_Co 2 rfl zH_Co_20 rfl rfl rfl rfl rfl rfl 3 rfl rfl rfl d_Co_init_26 ?_
  refine g_aload_n (pc := 29) hO.ok d_Co_init_29 rfl 0 rfl ?_
  refine g_aload_n (pc := 30) hO.ok d_Co_init_30 rfl 1 rfl ?_
  refine g_putR (pc := 31) (X0 := X) (k1 := 3) (k2 := 2315) (C := zr_Co) (T := zf_Co) (N := 3) (ci := 1) (w' := ((q3, .inl (c.1, 8, .inl zf0)) :: ((q1, .inr (6, [.int (6 : Int32), .ref u2, .int (0 : Int32)])) :: ((u2, .inl (c.1, 2304, .inl zf0)) :: ((a0, .inr (1, [.ref q1, .ref j, .ref q3])) :: []))))) rfl hR zt_Co zo_Co zn_Co hO.ok zi_Co 1 rfl zH_Co_24 rfl rfl rfl rfl rfl rfl 3 rfl rfl rfl d_Co_init_31 ?_
  refine g_sub (w' := ((a0, .inr (1, [.ref q1, .ref j, .ref q3])) :: ((q1, .inr (6, [.int (6 : Int32), .ref u2, .int (0 : Int32)])) :: ((u2, .inl (c.1, 2304, .inl zf0)) :: ((q3, .inl (c.1, 8, .inl zf0)) :: []))))) [3, 1, 2, 0] rfl rfl ?_
  exact g_cret (X0 := X) rfl hR hO.ok ⟨q1, u2, q3, rfl⟩ d_Co_init_34)
theorem d_Fi_init_0 : decode zb_Fi_init 0 = .ok (.aload_n 0, 1) := by decide +kernel
theorem d_Fi_init_1 : decode zb_Fi_init 1 = .ok (.invokespecial 5, 3) := by decide +kernel
theorem d_Fi_init_4 : decode zb_Fi_init 4 = .ok (.aload_n 0, 1) := by decide +kernel
theorem d_Fi_init_5 : decode zb_Fi_init 5 = .ok (.new 11, 3) := by decide +kernel
theorem d_Fi_init_8 : decode zb_Fi_init 8 = .ok (.dup, 1) := by decide +kernel
theorem d_Fi_init_9 : decode zb_Fi_init 9 = .ok (.bipush 8, 2) := by decide +kernel
theorem d_Fi_init_11 : decode zb_Fi_init 11 = .ok (.bipush 13, 2) := by decide +kernel
theorem d_Fi_init_13 : decode zb_Fi_init 13 = .ok (.iconst 0, 1) := by decide +kernel
theorem d_Fi_init_14 : decode zb_Fi_init 14 = .ok (.invokespecial 13, 3) := by decide +kernel
theorem d_Fi_init_17 : decode zb_Fi_init 17 = .ok (.putfield 16, 3) := by decide +kernel
theorem d_Fi_init_20 : decode zb_Fi_init 20 = .ok (.aload_n 0, 1) := by decide +kernel
theorem d_Fi_init_21 : decode zb_Fi_init 21 = .ok (.aload_n 1, 1) := by decide +kernel
theorem d_Fi_init_22 : decode zb_Fi_init 22 = .ok (.putfield 20, 3) := by decide +kernel
theorem d_Fi_init_25 : decode zb_Fi_init 25 = .ok (.aload_n 0, 1) := by decide +kernel
theorem d_Fi_init_26 : decode zb_Fi_init 26 = .ok (.aload_n 2, 1) := by decide +kernel
theorem d_Fi_init_27 : decode zb_Fi_init 27 = .ok (.putfield 24, 3) := by decide +kernel
theorem d_Fi_init_30 : decode zb_Fi_init 30 = .ok (.return_, 1) := by decide +kernel
set_option maxRecDepth 20000 in
theorem c_Fi_init (c : zY) (a0 : Nat) (b j : Nat) : KC zy_Fi_init zb_Fi_init 3 2 2 107 c [.ref a0, .ref b, .ref j] ((a0, .inr (3, [.null, .null, .null, .int 0, .int 0])) :: []) (fun w2 => ∃ (q1 u2 : Nat), w2 = ((a0, .inr (3, [.ref q1, .ref b, .ref j, .int 0, .int 0])) :: ((q1, .inr (6, [.int (13 : Int32), .ref u2, .int (0 : Int32)])) :: ((u2, .inl (c.1, 104, .inl zf0)) :: [])))) := zC_of zp_Fi rfl rfl (Nat.le_of_ble_eq_true rfl) (fun X sz hX hR hV => by
  show Go X ((a0, .inr (3, [.null, .null, .null, .int 0, .int 0])) :: []) [(0, .ref a0), (1, .ref b), (2, .ref j)] 0 []
  refine zUp_0 ?_
  have hO := hX.up0
  refine g_aload_n (pc := 0) hO.ok d_Fi_init_0 rfl 0 rfl ?_
  refine g_obj (pc := 1) hO.ok zL_Fi_5 rfl rfl d_Fi_init_1 ?_
  refine g_aload_n (pc := 4) hO.ok d_Fi_init_4 rfl 0 rfl ?_
  refine g_newF (pc := 5) (C := zr_Ta) (T := zf_Ta) (N := 3) (ci := 6) (fs := [.int 0, .null, .int 0]) hO zi_Ta zt_Ta zo_Ta zG_Fi_11 zN_Ta zI_Ta rfl (by decide +kernel) rfl rfl d_Fi_init_5 1 3 rfl rfl (fun q1 => ?_)
  have hO := hX.up 1 3 rfl rfl
  refine g_dup (pc := 8) hO.ok d_Fi_init_8 rfl ?_
  refine g_bipush (pc := 9) hO.ok d_Fi_init_9 ze_8 ?_
  refine g_bipush (pc := 11) hO.ok d_Fi_init_11 ze_13 ?_
  refine g_iconst (pc := 13) hO.ok d_Fi_init_13 zc_0 ?_
  refine g_ctorF (pc := 14) (st := [.ref q1, .ref a0]) (w2 := ((a0, .inr (3, [.null, .null, .null, .int 0, .int 0])) :: [])) hO hV zk_Ta_init rfl zL_Fi_13 (c_Ta_init c q1 (8 : Int32) (13 : Int32) (0 : Int32) 104 (by decide) (by decide) rfl) rfl rfl rfl rfl rfl rfl rfl rfl d_Fi_init_14 2 107 rfl rfl (fun w9 h9 => ?_)
  obtain ⟨u2, rfl⟩ := h9
  have hO := hX.up 2 107 rfl rfl
  show Go (zUp X 2 107) ((q1, .inr (6, [.int (13 : Int32), .ref u2, .int (0 : Int32)])) :: ((u2, .inl (c.1, 104, .inl zf0)) :: ((a0, .inr (3, [.null, .null, .null, .int 0, .int 0])) :: []))) [(0, .ref a0), (1, .ref b), (2, .ref j)] 17 [.ref q1, .ref a0]
  refine g_putR (pc := 17) (X0 := X) (k1 := 2) (k2 := 107) (C := zr_Fi) (T := zf_Fi) (N := 5) (ci := 3) (w' := ((q1, .inr (6, [.int (13 : Int32), .ref u2, .int (0 : Int32)])) :: ((u2, .inl (c.1, 104, .inl zf0)) :: ((a0, .inr (3, [.ref q1, .null, .null, .int 0, .int 0])) :: [])))) rfl hR zt_Fi zo_Fi zn_Fi hO.ok zi_Fi 0 rfl zH_Fi_16 rfl rfl rfl rfl rfl rfl 2 rfl rfl rfl d_Fi_init_17 ?_
  refine g_aload_n (pc := 20) hO.ok d_Fi_init_20 rfl 0 rfl ?_
  refine g_aload_n (pc := 21) hO.ok d_Fi_init_21 rfl 1 rfl ?_
  refine g_putR (pc := 22) (X0 := X) (k1 := 2) (k2 := 107) (C := zr_Fi) (T := zf_Fi) (N := 5) (ci := 3) (w' := ((q1, .inr (6, [.int (13 : Int32), .ref u2, .int (0 : Int32)])) :: ((u2, .inl (c.1, 104, .inl zf0)) :: ((a0, .inr (3, [.ref q1, .ref b, .null, .int 0, .int 0])) :: [])))) rfl hR zt_Fi zo_Fi zn_Fi hO.ok zi_Fi 1 rfl zH_Fi_20 rfl rfl rfl rfl rfl rfl 2 rfl rfl rfl d_Fi_init_22 ?_
  refine g_aload_n (pc := 25) hO.ok d_Fi_init_25 rfl 0 rfl ?_
  refine g_aload_n (pc := 26) hO.ok d_Fi_init_26 rfl 2 rfl ?_
  refine g_putR (pc := 27) (X0 := X) (k1 := 2) (k2 := 107) (C := zr_Fi) (T := zf_Fi) (N := 5) (ci := 3) (w' := ((q1, .inr (6, [.int (13 : Int32), .ref u2, .int (0 : Int32)])) :: ((u2, .inl (c.1, 104, .inl zf0)) :: ((a0, .inr (3, [.ref q1, .ref b, .ref j, .int 0, .int 0])) :: [])))) rfl hR zt_Fi zo_Fi zn_Fi hO.ok zi_Fi 2 rfl zH_Fi_24 rfl rfl rfl rfl rfl rfl 2 rfl rfl rfl d_Fi_init_27 ?_
  refine g_sub (w' := ((a0, .inr (3, [.ref q1, .ref b, .ref j, .int 0, .int 0])) :: ((q1, .inr (6, [.int (13 : Int32), .ref u2, .int (0 : Int32)])) :: ((u2, .inl (c.1, 104, .inl zf0)) :: [])))) [2, 0, 1] rfl rfl ?_
  exact g_cret (X0 := X) rfl hR hO.ok ⟨q1, u2, rfl⟩ d_Fi_init_30)
theorem d_En_init_0 : decode zb_En_init 0 = .ok (.aload_n 0, 1) := by decide +kernel
theorem d_En_init_1 : decode zb_En_init 1 = .ok (.invokespecial 3, 3) := by decide +kernel
theorem d_En_init_4 : decode zb_En_init 4 = .ok (.aload_n 0, 1) := by decide +kernel
theorem d_En_init_5 : decode zb_En_init 5 = .ok (.new 9, 3) := by decide +kernel
theorem d_En_init_8 : decode zb_En_init 8 = .ok (.dup, 1) := by decide +kernel
theorem d_En_init_9 : decode zb_En_init 9 = .ok (.bipush 8, 2) := by decide +kernel
theorem d_En_init_11 : decode zb_En_init 11 = .ok (.iconst 1, 1) := by decide +kernel
theorem d_En_init_12 : decode zb_En_init 12 = .ok (.iconst 0, 1) := by decide +kernel
theorem d_En_init_13 : decode zb_En_init 13 = .ok (.invokespecial 11, 3) := by decide +kernel
theorem d_En_init_16 : decode zb_En_init 16 = .ok (.putfield 14, 3) := by decide +kernel
theorem d_En_init_19 : decode zb_En_init 19 = .ok (.aload_n 0, 1) := by decide +kernel
theorem d_En_init_20 : decode zb_En_init 20 = .ok (.aload_n 1, 1) := by decide +kernel
theorem d_En_init_21 : decode zb_En_init 21 = .ok (.putfield 20, 3) := by decide +kernel
theorem d_En_init_24 : decode zb_En_init 24 = .ok (.aload_n 0, 1) := by decide +kernel
theorem d_En_init_25 : decode zb_En_init 25 = .ok (.aload_n 2, 1) := by decide +kernel
theorem d_En_init_26 : decode zb_En_init 26 = .ok (.putfield 24, 3) := by decide +kernel
theorem d_En_init_29 : decode zb_En_init 29 = .ok (.aload_n 0, 1) := by decide +kernel
theorem d_En_init_30 : decode zb_En_init 30 = .ok (.aload_n 3, 1) := by decide +kernel
theorem d_En_init_31 : decode zb_En_init 31 = .ok (.putfield 28, 3) := by decide +kernel
theorem d_En_init_34 : decode zb_En_init 34 = .ok (.return_, 1) := by decide +kernel
set_option maxRecDepth 20000 in
theorem c_En_init (c : zY) (a0 : Nat) (f b j : Nat) : KC zy_En_init zb_En_init 4 2 2 11 c [.ref a0, .ref f, .ref b, .ref j] ((a0, .inr (2, [.null, .null, .null, .null, .int 0, .int 0, .int 0, .int 0, .int 0, .int 0, .int 0])) :: []) (fun w2 => ∃ (q1 u2 : Nat), w2 = ((a0, .inr (2, [.ref q1, .ref f, .ref b, .ref j, .int 0, .int 0, .int 0, .int 0, .int 0, .int 0, .int 0])) :: ((q1, .inr (6, [.int (1 : Int32), .ref u2, .int (0 : Int32)])) :: ((u2, .inl (c.1, 8, .inl zf0)) :: [])))) := zC_of zp_En rfl rfl (Nat.le_of_ble_eq_true rfl) (fun X sz hX hR hV => by
  show Go X ((a0, .inr (2, [.null, .null, .null, .null, .int 0, .int 0, .int 0, .int 0, .int 0, .int 0, .int 0])) :: []) [(0, .ref a0), (1, .ref f), (2, .ref b), (3, .ref j)] 0 []
  refine zUp_0 ?_
  have hO := hX.up0
  refine g_aload_n (pc := 0) hO.ok d_En_init_0 rfl 0 rfl ?_
  refine g_obj (pc := 1) hO.ok zL_En_3 rfl rfl d_En_init_1 ?_
  refine g_aload_n (pc := 4) hO.ok d_En_init_4 rfl 0 rfl ?_
  refine g_newF (pc := 5) (C := zr_Ta) (T := zf_Ta) (N := 3) (ci := 6) (fs := [.int 0, .null, .int 0]) hO zi_Ta zt_Ta zo_Ta zG_En_9 zN_Ta zI_Ta rfl (by decide +kernel) rfl rfl d_En_init_5 1 3 rfl rfl (fun q1 => ?_)
  have hO := hX.up 1 3 rfl rfl
  refine g_dup (pc := 8) hO.ok d_En_init_8 rfl ?_
  refine g_bipush (pc := 9) hO.ok d_En_init_9 ze_8 ?_
  refine g_iconst (pc := 11) hO.ok d_En_init_11 zc_1 ?_
  refine g_iconst (pc := 12) hO.ok d_En_init_12 zc_0 ?_
  refine g_ctorF (pc := 13) (st := [.ref q1, .ref a0]) (w2 := ((a0, .inr (2, [.null, .null, .null, .null, .int 0, .int 0, .int 0, .int 0, .int 0, .int 0, .int 0])) :: [])) hO hV zk_Ta_init rfl zL_En_11 (c_Ta_init c q1 (8 : Int32) (1 : Int32) (0 : Int32) 8 (by decide) (by decide) rfl) rfl rfl rfl rfl rfl rfl rfl rfl d_En_init_13 2 11 rfl rfl (fun w9 h9 => ?_)
  obtain ⟨u2, rfl⟩ := h9
  have hO := hX.up 2 11 rfl rfl
  show Go (zUp X 2 11) ((q1, .inr (6, [.int (1 : Int32), .ref u2, .int (0 : Int32)])) :: ((u2, .inl (c.1, 8, .inl zf0)) :: ((a0, .inr (2, [.null, .null, .null, .null, .int 0, .int 0, .int 0, .int 0, .int 0, .int 0, .int 0])) :: []))) [(0, .ref a0), (1, .ref f), (2, .ref b), (3, .ref j)] 16 [.ref q1, .ref a0]
  refine g_putR (pc := 16) (X0 := X) (k1 := 2) (k2 := 11) (C := zr_En) (T := zf_En) (N := 11) (ci := 2) (w' := ((q1, .inr (6, [.int (1 : Int32), .ref u2, .int (0 : Int32)])) :: ((u2, .inl (c.1, 8, .inl zf0)) :: ((a0, .inr (2, [.ref q1, .null, .null, .null, .int 0, .int 0, .int 0, .int 0, .int 0, .int 0, .int 0])) :: [])))) rfl hR zt_En zo_En zn_En hO.ok zi_En 0 rfl zH_En_14 rfl rfl rfl rfl rfl rfl 2 rfl rfl rfl d_En_init_16 ?_
  refine g_aload_n (pc := 19) hO.ok d_En_init_19 rfl 0 rfl ?_
  refine g_aload_n (pc := 20) hO.ok d_En_init_20 rfl 1 rfl ?_
  refine g_putR (pc := 21) (X0 := X) (k1 := 2) (k2 := 11) (C := zr_En) (T := zf_En) (N := 11) (ci := 2) (w' := ((q1, .inr (6, [.int (1 : Int32), .ref u2, .int (0 : Int32)])) :: ((u2, .inl (c.1, 8, .inl zf0)) :: ((a0, .inr (2, [.ref q1, .ref f, .null, .null, .int 0, .int 0, .int 0, .int 0, .int 0, .int 0, .int 0])) :: [])))) rfl hR zt_En zo_En zn_En hO.ok zi_En 1 rfl zH_En_20 rfl rfl rfl rfl rfl rfl 2 rfl rfl rfl d_En_init_21 ?_
  refine g_aload_n (pc := 24) hO.ok d_En_init_24 rfl 0 rfl ?_
  refine g_aload_n (pc := 25) hO.ok d_En_init_25 rfl 2 rfl ?_
  refine g_putR (pc := 26) (X0 := X) (k1 := 2) (k2 := 11) (C := zr_En) (T := zf_En) (N := 11) (ci := 2) (w' := ((q1, .inr (6, [.int (1 : Int32), .ref u2, .int (0 : Int32)])) :: ((u2, .inl (c.1, 8, .inl zf0)) :: ((a0, .inr (2, [.ref q1, .ref f, .ref b, .null, .int 0, .int 0, .int 0, .int 0, .int 0, .int 0, .int 0])) :: [])))) rfl hR zt_En zo_En zn_En hO.ok zi_En 2 rfl zH_En_24 rfl rfl rfl rfl rfl rfl 2 rfl rfl rfl d_En_init_26 ?_
  refine g_aload_n (pc := 29) hO.ok d_En_init_29 rfl 0 rfl ?_
  refine g_aload_n (pc := 30) hO.ok d_En_init_30 rfl 3 rfl ?_
  refine g_putR (pc := 31) (X0 := X) (k1 := 2) (k2 := 11) (C := zr_En) (T := zf_En) (N := 11) (ci := 2) (w' := ((q1, .inr (6, [.int (1 : Int32), .ref u2, .int (0 : Int32)])) :: ((u2, .inl (c.1, 8, .inl zf0)) :: ((a0, .inr (2, [.ref q1, .ref f, .ref b, .ref j, .int 0, .int 0, .int 0, .int 0, .int 0, .int 0, .int 0])) :: [])))) rfl hR zt_En zo_En zn_En hO.ok zi_En 3 rfl zH_En_28 rfl rfl rfl rfl rfl rfl 2 rfl rfl rfl d_En_init_31 ?_
  refine g_sub (w' := ((a0, .inr (2, [.ref q1, .ref f, .ref b, .ref j, .int 0, .int 0, .int 0, .int 0, .int 0, .int 0, .int 0])) :: ((q1, .inr (6, [.int (1 : Int32), .ref u2, .int (0 : Int32)])) :: ((u2, .inl (c.1, 8, .inl zf0)) :: [])))) [2, 0, 1] rfl rfl ?_
  exact g_cret (X0 := X) rfl hR hO.ok ⟨q1, u2, rfl⟩ d_En_init_34)
theorem d_Tp_init_0 : decode zb_Tp_init 0 = .ok (.aload_n 0, 1) := by decide +kernel
theorem d_Tp_init_1 : decode zb_Tp_init 1 = .ok (.invokespecial 5, 3) := by decide +kernel
theorem d_Tp_init_4 : decode zb_Tp_init 4 = .ok (.aload_n 0, 1) := by decide +kernel
theorem d_Tp_init_5 : decode zb_Tp_init 5 = .ok (.bipush 40, 2) := by decide +kernel
theorem d_Tp_init_7 : decode zb_Tp_init 7 = .ok (.newarray .int, 2) := by decide +kernel
theorem d_Tp_init_9 : decode zb_Tp_init 9 = .ok (.putfield 11, 3) := by decide +kernel
theorem d_Tp_init_12 : decode zb_Tp_init 12 = .ok (.aload_n 0, 1) := by decide +kernel
theorem d_Tp_init_13 : decode zb_Tp_init 13 = .ok (.bipush 25, 2) := by decide +kernel
theorem d_Tp_init_15 : decode zb_Tp_init 15 = .ok (.newarray .int, 2) := by decide +kernel
theorem d_Tp_init_17 : decode zb_Tp_init 17 = .ok (.putfield 15, 3) := by decide +kernel
theorem d_Tp_init_20 : decode zb_Tp_init 20 = .ok (.return_, 1) := by decide +kernel
set_option maxRecDepth 20000 in
theorem c_Tp_init (c : zY) (a0 : Nat) : KC zy_Tp_init zb_Tp_init 1 1 2 65 c [.ref a0] ((a0, .inr (7, [.null, .null, .int 0, .int 0])) :: []) (fun w2 => ∃ (q1 q2 : Nat), w2 = ((a0, .inr (7, [.ref q1, .ref q2, .int 0, .int 0])) :: ((q1, .inl (c.1, 40, .inl zf0)) :: ((q2, .inl (c.1, 25, .inl zf0)) :: [])))) := zC_of zp_Tp rfl rfl (Nat.le_of_ble_eq_true rfl) (fun X sz hX hR hV => by
  show Go X ((a0, .inr (7, [.null, .null, .int 0, .int 0])) :: []) [(0, .ref a0)] 0 []
  refine zUp_0 ?_
  have hO := hX.up0
  refine g_aload_n (pc := 0) hO.ok d_Tp_init_0 rfl 0 rfl ?_
  refine g_obj (pc := 1) hO.ok zL_Tp_5 rfl rfl d_Tp_init_1 ?_
  refine g_aload_n (pc := 4) hO.ok d_Tp_init_4 rfl 0 rfl ?_
  refine g_bipush (pc := 5) hO.ok d_Tp_init_5 ze_40 ?_
  refine g_newIF (pc := 7) hO 40 (by decide) (by decide) rfl rfl rfl d_Tp_init_7 1 40 rfl rfl (fun q1 => ?_)
  have hO := hX.up 1 40 rfl rfl
  show Go (zUp X 1 40) ((q1, .inl (c.1, 40, .inl zf0)) :: ((a0, .inr (7, [.null, .null, .int 0, .int 0])) :: [])) [(0, .ref a0)] 9 [.ref q1, .ref a0]
  refine g_putR (pc := 9) (X0 := X) (k1 := 1) (k2 := 40) (C := zr_Tp) (T := zf_Tp) (N := 4) (ci := 7) (w' := ((q1, .inl (c.1, 40, .inl zf0)) :: ((a0, .inr (7, [.ref q1, .null, .int 0, .int 0])) :: []))) rfl hR zt_Tp zo_Tp zn_Tp hO.ok zi_Tp 0 rfl zH_Tp_11 rfl rfl rfl rfl rfl rfl 1 rfl rfl rfl d_Tp_init_9 ?_
  refine g_aload_n (pc := 12) hO.ok d_Tp_init_12 rfl 0 rfl ?_
  refine g_bipush (pc := 13) hO.ok d_Tp_init_13 ze_25 ?_
  refine g_newIF (pc := 15) hO 25 (by decide) (by decide) rfl rfl rfl d_Tp_init_15 2 65 rfl rfl (fun q2 => ?_)
  have hO := hX.up 2 65 rfl rfl
  show Go (zUp X 2 65) ((q2, .inl (c.1, 25, .inl zf0)) :: ((q1, .inl (c.1, 40, .inl zf0)) :: ((a0, .inr (7, [.ref q1, .null, .int 0, .int 0])) :: []))) [(0, .ref a0)] 17 [.ref q2, .ref a0]
  refine g_putR (pc := 17) (X0 := X) (k1 := 2) (k2 := 65) (C := zr_Tp) (T := zf_Tp) (N := 4) (ci := 7) (w' := ((q2, .inl (c.1, 25, .inl zf0)) :: ((q1, .inl (c.1, 40, .inl zf0)) :: ((a0, .inr (7, [.ref q1, .ref q2, .int 0, .int 0])) :: [])))) rfl hR zt_Tp zo_Tp zn_Tp hO.ok zi_Tp 1 rfl zH_Tp_15 rfl rfl rfl rfl rfl rfl 2 rfl rfl rfl d_Tp_init_17 ?_
  refine g_sub (w' := ((a0, .inr (7, [.ref q1, .ref q2, .int 0, .int 0])) :: ((q1, .inl (c.1, 40, .inl zf0)) :: ((q2, .inl (c.1, 25, .inl zf0)) :: [])))) [2, 1, 0] rfl rfl ?_
  exact g_cret (X0 := X) rfl hR hO.ok ⟨q1, q2, rfl⟩ d_Tp_init_20)
theorem d_Wa_init_0 : decode zb_Wa_init 0 = .ok (.aload_n 0, 1) := by decide +kernel
theorem d_Wa_init_1 : decode zb_Wa_init 1 = .ok (.invokespecial 3, 3) := by decide +kernel
theorem d_Wa_init_4 : decode zb_Wa_init 4 = .ok (.aload_n 0, 1) := by decide +kernel
theorem d_Wa_init_5 : decode zb_Wa_init 5 = .ok (.bipush 100, 2) := by decide +kernel
theorem d_Wa_init_7 : decode zb_Wa_init 7 = .ok (.newarray .int, 2) := by decide +kernel
theorem d_Wa_init_9 : decode zb_Wa_init 9 = .ok (.putfield 9, 3) := by decide +kernel
theorem d_Wa_init_12 : decode zb_Wa_init 12 = .ok (.aload_n 0, 1) := by decide +kernel
theorem d_Wa_init_13 : decode zb_Wa_init 13 = .ok (.bipush 100, 2) := by decide +kernel
theorem d_Wa_init_15 : decode zb_Wa_init 15 = .ok (.newarray .int, 2) := by decide +kernel
theorem d_Wa_init_17 : decode zb_Wa_init 17 = .ok (.putfield 15, 3) := by decide +kernel
theorem d_Wa_init_20 : decode zb_Wa_init 20 = .ok (.return_, 1) := by decide +kernel
set_option maxRecDepth 20000 in
theorem c_Wa_init (c : zY) (a0 : Nat) : KC zy_Wa_init zb_Wa_init 1 1 2 200 c [.ref a0] ((a0, .inr (8, [.null, .null, .int 0])) :: []) (fun w2 => ∃ (q1 q2 : Nat), w2 = ((a0, .inr (8, [.ref q1, .ref q2, .int 0])) :: ((q1, .inl (c.1, 100, .inl zf0)) :: ((q2, .inl (c.1, 100, .inl zf0)) :: [])))) := zC_of zp_Wa rfl rfl (Nat.le_of_ble_eq_true rfl) (fun X sz hX hR hV => by
  show Go X ((a0, .inr (8, [.null, .null, .int 0])) :: []) [(0, .ref a0)] 0 []
  refine zUp_0 ?_
  have hO := hX.up0
  refine g_aload_n (pc := 0) hO.ok d_Wa_init_0 rfl 0 rfl ?_
  refine g_obj (pc := 1) hO.ok zL_Wa_3 rfl rfl d_Wa_init_1 ?_
  refine g_aload_n (pc := 4) hO.ok d_Wa_init_4 rfl 0 rfl ?_
  refine g_bipush (pc := 5) hO.ok d_Wa_init_5 ze_100 ?_
  refine g_newIF (pc := 7) hO 100 (by decide) (by decide) rfl rfl rfl d_Wa_init_7 1 100 rfl rfl (fun q1 => ?_)
  have hO := hX.up 1 100 rfl rfl
  show Go (zUp X 1 100) ((q1, .inl (c.1, 100, .inl zf0)) :: ((a0, .inr (8, [.null, .null, .int 0])) :: [])) [(0, .ref a0)] 9 [.ref q1, .ref a0]
  refine g_putR (pc := 9) (X0 := X) (k1 := 1) (k2 := 100) (C := zr_Wa) (T := zf_Wa) (N := 3) (ci := 8) (w' := ((q1, .inl (c.1, 100, .inl zf0)) :: ((a0, .inr (8, [.ref q1, .null, .int 0])) :: []))) rfl hR zt_Wa zo_Wa zn_Wa hO.ok zi_Wa 0 rfl zH_Wa_9 rfl rfl rfl rfl rfl rfl 1 rfl rfl rfl d_Wa_init_9 ?_
  refine g_aload_n (pc := 12) hO.ok d_Wa_init_12 rfl 0 rfl ?_
  refine g_bipush (pc := 13) hO.ok d_Wa_init_13 ze_100 ?_
  refine g_newIF (pc := 15) hO 100 (by decide) (by decide) rfl rfl rfl d_Wa_init_15 2 200 rfl rfl (fun q2 => ?_)
  have hO := hX.up 2 200 rfl rfl
  show Go (zUp X 2 200) ((q2, .inl (c.1, 100, .inl zf0)) :: ((q1, .inl (c.1, 100, .inl zf0)) :: ((a0, .inr (8, [.ref q1, .null, .int 0])) :: []))) [(0, .ref a0)] 17 [.ref q2, .ref a0]
  refine g_putR (pc := 17) (X0 := X) (k1 := 2) (k2 := 200) (C := zr_Wa) (T := zf_Wa) (N := 3) (ci := 8) (w' := ((q2, .inl (c.1, 100, .inl zf0)) :: ((q1, .inl (c.1, 100, .inl zf0)) :: ((a0, .inr (8, [.ref q1, .ref q2, .int 0])) :: [])))) rfl hR zt_Wa zo_Wa zn_Wa hO.ok zi_Wa 1 rfl zH_Wa_15 rfl rfl rfl rfl rfl rfl 2 rfl rfl rfl d_Wa_init_17 ?_
  refine g_sub (w' := ((a0, .inr (8, [.ref q1, .ref q2, .int 0])) :: ((q1, .inl (c.1, 100, .inl zf0)) :: ((q2, .inl (c.1, 100, .inl zf0)) :: [])))) [2, 1, 0] rfl rfl ?_
  exact g_cret (X0 := X) rfl hR hO.ok ⟨q1, q2, rfl⟩ d_Wa_init_20)
theorem d_St_init_0 : decode zb_St_init 0 = .ok (.aload_n 0, 1) := by decide +kernel
theorem d_St_init_1 : decode zb_St_init 1 = .ok (.invokespecial 3, 3) := by decide +kernel
theorem d_St_init_4 : decode zb_St_init 4 = .ok (.aload_n 0, 1) := by decide +kernel
theorem d_St_init_5 : decode zb_St_init 5 = .ok (.new 9, 3) := by decide +kernel
theorem d_St_init_8 : decode zb_St_init 8 = .ok (.dup, 1) := by decide +kernel
theorem d_St_init_9 : decode zb_St_init 9 = .ok (.bipush 100, 2) := by decide +kernel
theorem d_St_init_11 : decode zb_St_init 11 = .ok (.iconst 1, 1) := by decide +kernel
theorem d_St_init_12 : decode zb_St_init 12 = .ok (.bipush 100, 2) := by decide +kernel
theorem d_St_init_14 : decode zb_St_init 14 = .ok (.invokespecial 11, 3) := by decide +kernel
theorem d_St_init_17 : decode zb_St_init 17 = .ok (.putfield 14, 3) := by decide +kernel
theorem d_St_init_20 : decode zb_St_init 20 = .ok (.aload_n 0, 1) := by decide +kernel
theorem d_St_init_21 : decode zb_St_init 21 = .ok (.new 9, 3) := by decide +kernel
theorem d_St_init_24 : decode zb_St_init 24 = .ok (.dup, 1) := by decide +kernel
theorem d_St_init_25 : decode zb_St_init 25 = .ok (.iconst 4, 1) := by decide +kernel
theorem d_St_init_26 : decode zb_St_init 26 = .ok (.bipush 25, 2) := by decide +kernel
theorem d_St_init_28 : decode zb_St_init 28 = .ok (.iconst 4, 1) := by decide +kernel
theorem d_St_init_29 : decode zb_St_init 29 = .ok (.invokespecial 11, 3) := by decide +kernel
theorem d_St_init_32 : decode zb_St_init 32 = .ok (.putfield 22, 3) := by decide +kernel
theorem d_St_init_35 : decode zb_St_init 35 = .ok (.new 25, 3) := by decide +kernel
theorem d_St_init_38 : decode zb_St_init 38 = .ok (.dup, 1) := by decide +kernel
theorem d_St_init_39 : decode zb_St_init 39 = .ok (.invokespecial 27, 3) := by decide +kernel
theorem d_St_init_42 : decode zb_St_init 42 = .ok (.astore_n 1, 1) := by decide +kernel
theorem d_St_init_43 : decode zb_St_init 43 = .ok (.new 28, 3) := by decide +kernel
theorem d_St_init_46 : decode zb_St_init 46 = .ok (.dup, 1) := by decide +kernel
theorem d_St_init_47 : decode zb_St_init 47 = .ok (.aload_n 1, 1) := by decide +kernel
theorem d_St_init_48 : decode zb_St_init 48 = .ok (.invokespecial 30, 3) := by decide +kernel
theorem d_St_init_51 : decode zb_St_init 51 = .ok (.astore_n 2, 1) := by decide +kernel
theorem d_St_init_52 : decode zb_St_init 52 = .ok (.new 33, 3) := by decide +kernel
theorem d_St_init_55 : decode zb_St_init 55 = .ok (.dup, 1) := by decide +kernel
theorem d_St_init_56 : decode zb_St_init 56 = .ok (.aload_n 2, 1) := by decide +kernel
theorem d_St_init_57 : decode zb_St_init 57 = .ok (.aload_n 1, 1) := by decide +kernel
theorem d_St_init_58 : decode zb_St_init 58 = .ok (.invokespecial 35, 3) := by decide +kernel
theorem d_St_init_61 : decode zb_St_init 61 = .ok (.astore_n 3, 1) := by decide +kernel
theorem d_St_init_62 : decode zb_St_init 62 = .ok (.aload_n 0, 1) := by decide +kernel
theorem d_St_init_63 : decode zb_St_init 63 = .ok (.aload_n 1, 1) := by decide +kernel
theorem d_St_init_64 : decode zb_St_init 64 = .ok (.putfield 38, 3) := by decide +kernel
theorem d_St_init_67 : decode zb_St_init 67 = .ok (.aload_n 0, 1) := by decide +kernel
theorem d_St_init_68 : decode zb_St_init 68 = .ok (.aload_n 2, 1) := by decide +kernel
theorem d_St_init_69 : decode zb_St_init 69 = .ok (.putfield 42, 3) := by decide +kernel
theorem d_St_init_72 : decode zb_St_init 72 = .ok (.aload_n 0, 1) := by decide +kernel
theorem d_St_init_73 : decode zb_St_init 73 = .ok (.aload_n 3, 1) := by decide +kernel
theorem d_St_init_74 : decode zb_St_init 74 = .ok (.putfield 46, 3) := by decide +kernel
theorem d_St_init_77 : decode zb_St_init 77 = .ok (.aload_n 0, 1) := by decide +kernel
theorem d_St_init_78 : decode zb_St_init 78 = .ok (.new 50, 3) := by decide +kernel
theorem d_St_init_81 : decode zb_St_init 81 = .ok (.dup, 1) := by decide +kernel
theorem d_St_init_82 : decode zb_St_init 82 = .ok (.aload_n 3, 1) := by decide +kernel
theorem d_St_init_83 : decode zb_St_init 83 = .ok (.aload_n 2, 1) := by decide +kernel
theorem d_St_init_84 : decode zb_St_init 84 = .ok (.aload_n 1, 1) := by decide +kernel
theorem d_St_init_85 : decode zb_St_init 85 = .ok (.invokespecial 52, 3) := by decide +kernel
theorem d_St_init_88 : decode zb_St_init 88 = .ok (.putfield 55, 3) := by decide +kernel
theorem d_St_init_91 : decode zb_St_init 91 = .ok (.return_, 1) := by decide +kernel
set_option maxRecDepth 20000 in
theorem c_St_init (c : zY) (a0 : Nat) : KC zy_St_init zb_St_init 4 3 16 3560 c [.ref a0] ((a0, .inr (5, [.null, .null, .null, .null, .null, .null, .int 0])) :: []) (fun w2 => ∃ q : Nat → Nat, q 12 = a0 ∧ w2 = zwS c q zs0) := zC_of zp_St rfl rfl (Nat.le_of_ble_eq_true rfl) (fun X sz hX hR hV => by
  show Go X ((a0, .inr (5, [.null, .null, .null, .null, .null, .null, .int 0])) :: []) [(0, .ref a0)] 0 []
  refine zUp_0 ?_
  have hO := hX.up0
  refine g_aload_n (pc := 0) hO.ok d_St_init_0 rfl 0 rfl ?_
  refine g_obj (pc := 1) hO.ok zL_St_3 rfl rfl d_St_init_1 ?_
  refine g_aload_n (pc := 4) hO.ok d_St_init_4 rfl 0 rfl ?_
  refine g_newF (pc := 5) (C := zr_Ta) (T := zf_Ta) (N := 3) (ci := 6) (fs := [.int 0, .null, .int 0]) hO zi_Ta zt_Ta zo_Ta zG_St_9 zN_Ta zI_Ta rfl (by decide +kernel) rfl rfl d_St_init_5 1 3 rfl rfl (fun q1 => ?_)
  have hO := hX.up 1 3 rfl rfl
  refine g_dup (pc := 8) hO.ok d_St_init_8 rfl ?_
  refine g_bipush (pc := 9) hO.ok d_St_init_9 ze_100 ?_
  refine g_iconst (pc := 11) hO.ok d_St_init_11 zc_1 ?_
  refine g_bipush (pc := 12) hO.ok d_St_init_12 ze_100 ?_
  refine g_ctorF (pc := 14) (st := [.ref q1, .ref a0]) (w2 := ((a0, .inr (5, [.null, .null, .null, .null, .null, .null, .int 0])) :: [])) hO hV zk_Ta_init rfl zL_St_11 (c_Ta_init c q1 (100 : Int32) (1 : Int32) (100 : Int32) 100 (by decide) (by decide) rfl) rfl rfl rfl rfl rfl rfl rfl rfl d_St_init_14 2 103 rfl rfl (fun w9 h9 => ?_)
  obtain ⟨u2, rfl⟩ := h9
  have hO := hX.up 2 103 rfl rfl
  show Go (zUp X 2 103) ((q1, .inr (6, [.int (1 : Int32), .ref u2, .int (100 : Int32)])) :: ((u2, .inl (c.1, 100, .inl zf0)) :: ((a0, .inr (5, [.null, .null, .null, .null, .null, .null, .int 0])) :: []))) [(0, .ref a0)] 17 [.ref q1, .ref a0]
  refine g_putR (pc := 17) (X0 := X) (k1 := 2) (k2 := 103) (C := zr_St) (T := zf_St) (N := 7) (ci := 5) (w' := ((q1, .inr (6, [.int (1 : Int32), .ref u2, .int (100 : Int32)])) :: ((u2, .inl (c.1, 100, .inl zf0)) :: ((a0, .inr (5, [.null, .null, .null, .null, .ref q1, .null, .int 0])) :: [])))) rfl hR zt_St zo_St zn_St hO.ok zi_St 4 rfl zH_St_14 rfl rfl rfl rfl rfl rfl 2 rfl rfl rfl d_St_init_17 ?_
  refine g_aload_n (pc := 20) hO.ok d_St_init_20 rfl 0 rfl ?_
  refine g_newF (pc := 21) (C := zr_Ta) (T := zf_Ta) (N := 3) (ci := 6) (fs := [.int 0, .null, .int 0]) hO zi_Ta zt_Ta zo_Ta zG_St_9 zN_Ta zI_Ta rfl (by decide +kernel) rfl rfl d_St_init_21 3 106 rfl rfl (fun q3 => ?_)
  have hO := hX.up 3 106 rfl rfl
  refine g_dup (pc := 24) hO.ok d_St_init_24 rfl ?_
  refine g_iconst (pc := 25) hO.ok d_St_init_25 zc_4 ?_
  refine g_bipush (pc := 26) hO.ok d_St_init_26 ze_25 ?_
  refine g_iconst (pc := 28) hO.ok d_St_init_28 zc_4 ?_
  refine g_ctorF (pc := 29) (st := [.ref q3, .ref a0]) (w2 := ((q1, .inr (6, [.int (1 : Int32), .ref u2, .int (100 : Int32)])) :: ((u2, .inl (c.1, 100, .inl zf0)) :: ((a0, .inr (5, [.null, .null, .null, .null, .ref q1, .null, .int 0])) :: [])))) hO hV zk_Ta_init rfl zL_St_11 (c_Ta_init c q3 (4 : Int32) (25 : Int32) (4 : Int32) 100 (by decide) (by decide) rfl) rfl rfl rfl rfl rfl rfl rfl rfl d_St_init_29 4 206 rfl rfl (fun w9 h9 => ?_)
  obtain ⟨u4, rfl⟩ := h9
  have hO := hX.up 4 206 rfl rfl
  show Go (zUp X 4 206) ((q3, .inr (6, [.int (25 : Int32), .ref u4, .int (4 : Int32)])) :: ((u4, .inl (c.1, 100, .inl zf0)) :: ((q1, .inr (6, [.int (1 : Int32), .ref u2, .int (100 : Int32)])) :: ((u2, .inl (c.1, 100, .inl zf0)) :: ((a0, .inr (5, [.null, .null, .null, .null, .ref q1, .null, .int 0])) :: []))))) [(0, .ref a0)] 32 [.ref q3, .ref a0]
  refine g_putR (pc := 32) (X0 := X) (k1 := 4) (k2 := 206) (C := zr_St) (T := zf_St) (N := 7) (ci := 5) (w' := ((q3, .inr (6, [.int (25 : Int32), .ref u4, .int (4 : Int32)])) :: ((u4, .inl (c.1, 100, .inl zf0)) :: ((q1, .inr (6, [.int (1 : Int32), .ref u2, .int (100 : Int32)])) :: ((u2, .inl (c.1, 100, .inl zf0)) :: ((a0, .inr (5, [.null, .null, .null, .null, .ref q1, .ref q3, .int 0])) :: [])))))) rfl hR zt_St zo_St zn_St hO.ok zi_St 5 rfl zH_St_22 rfl rfl rfl rfl rfl rfl 4 rfl rfl rfl d_St_init_32 ?_
  refine g_newF (pc := 35) (C := zr_Jo) (T := zf_Jo) (N := 2) (ci := 4) (fs := [.null, .int 0]) hO zi_Jo zt_Jo zo_Jo zG_St_25 zN_Jo zI_Jo rfl (by decide +kernel) rfl rfl d_St_init_35 5 208 rfl rfl (fun q5 => ?_)
  have hO := hX.up 5 208 rfl rfl
  refine g_dup (pc := 38) hO.ok d_St_init_38 rfl ?_
  refine g_ctorN (pc := 39) (host := "EncounterLedger") (st := [.ref q5]) (w2 := ((q3, .inr (6, [.int (25 : Int32), .ref u4, .int (4 : Int32)])) :: ((u4, .inl (c.1, 100, .inl zf0)) :: ((q1, .inr (6, [.int (1 : Int32), .ref u2, .int (100 : Int32)])) :: ((u2, .inl (c.1, 100, .inl zf0)) :: ((a0, .inr (5, [.null, .null, .null, .null, .ref q1, .ref q3, .int 0])) :: [])))))) hO hV zk_Jo_init rfl (List.mem_of_getElem? (i := 0) rfl) (c_Jo_init c q5) rfl rfl rfl rfl rfl rfl rfl rfl d_St_init_39 6 1108 rfl rfl (fun w9 h9 => ?_)
  obtain ⟨u6_0, rfl⟩ := h9
  have hO := hX.up 6 1108 rfl rfl
  show Go (zUp X 6 1108) ((q5, .inr (4, [.ref u6_0, .int 0])) :: ((u6_0, .inl (c.1, 900, .inl zf0)) :: ((q3, .inr (6, [.int (25 : Int32), .ref u4, .int (4 : Int32)])) :: ((u4, .inl (c.1, 100, .inl zf0)) :: ((q1, .inr (6, [.int (1 : Int32), .ref u2, .int (100 : Int32)])) :: ((u2, .inl (c.1, 100, .inl zf0)) :: ((a0, .inr (5, [.null, .null, .null, .null, .ref q1, .ref q3, .int 0])) :: []))))))) [(0, .ref a0)] 42 [.ref q5]
  refine g_astore_n (pc := 42) (L' := [(1, .ref q5), (0, .ref a0)]) hO.ok d_St_init_42 rfl rfl rfl ?_
  refine g_newF (pc := 43) (C := zr_Co) (T := zf_Co) (N := 3) (ci := 1) (fs := [.null, .null, .null]) hO zi_Co zt_Co zo_Co zG_St_28 zN_Co zI_Co rfl (by decide +kernel) rfl rfl d_St_init_43 7 1111 rfl rfl (fun q7 => ?_)
  have hO := hX.up 7 1111 rfl rfl
  refine g_dup (pc := 46) hO.ok d_St_init_46 rfl ?_
  refine g_aload_n (pc := 47) hO.ok d_St_init_47 rfl 0 rfl ?_
  refine g_ctorF (pc := 48) (st := [.ref q7]) (w2 := ((q5, .inr (4, [.ref u6_0, .int 0])) :: ((u6_0, .inl (c.1, 900, .inl zf0)) :: ((q3, .inr (6, [.int (25 : Int32), .ref u4, .int (4 : Int32)])) :: ((u4, .inl (c.1, 100, .inl zf0)) :: ((q1, .inr (6, [.int (1 : Int32), .ref u2, .int (100 : Int32)])) :: ((u2, .inl (c.1, 100, .inl zf0)) :: ((a0, .inr (5, [.null, .null, .null, .null, .ref q1, .ref q3, .int 0])) :: [])))))))) hO hV zk_Co_init rfl zL_St_30 (c_Co_init c q7 q5) rfl rfl rfl rfl rfl rfl rfl rfl d_St_init_48 10 3426 rfl rfl (fun w9 h9 => ?_)
  obtain ⟨u8_0, u8_1, u8_2, rfl⟩ := h9
  have hO := hX.up 10 3426 rfl rfl
  show Go (zUp X 10 3426) ((q7, .inr (1, [.ref u8_0, .ref q5, .ref u8_2])) :: ((u8_0, .inr (6, [.int (6 : Int32), .ref u8_1, .int (0 : Int32)])) :: ((u8_1, .inl (c.1, 2304, .inl zf0)) :: ((u8_2, .inl (c.1, 8, .inl zf0)) :: ((q5, .inr (4, [.ref u6_0, .int 0])) :: ((u6_0, .inl (c.1, 900, .inl zf0)) :: ((q3, .inr (6, [.int (25 : Int32), .ref u4, .int (4 : Int32)])) :: ((u4, .inl (c.1, 100, .inl zf0)) :: ((q1, .inr (6, [.int (1 : Int32), .ref u2, .int (100 : Int32)])) :: ((u2, .inl (c.1, 100, .inl zf0)) :: ((a0, .inr (5, [.null, .null, .null, .null, .ref q1, .ref q3, .int 0])) :: []))))))))))) [(1, .ref q5), (0, .ref a0)] 51 [.ref q7]
  refine g_astore_n (pc := 51) (L' := [(2, .ref q7), (1, .ref q5), (0, .ref a0)]) hO.ok d_St_init_51 rfl rfl rfl ?_
  refine g_newF (pc := 52) (C := zr_Fi) (T := zf_Fi) (N := 5) (ci := 3) (fs := [.null, .null, .null, .int 0, .int 0]) hO zi_Fi zt_Fi zo_Fi zG_St_33 zN_Fi zI_Fi rfl (by decide +kernel) rfl rfl d_St_init_52 11 3431 rfl rfl (fun q9 => ?_)
  have hO := hX.up 11 3431 rfl rfl
  refine g_dup (pc := 55) hO.ok d_St_init_55 rfl ?_
  refine g_aload_n (pc := 56) hO.ok d_St_init_56 rfl 0 rfl ?_
  refine g_aload_n (pc := 57) hO.ok d_St_init_57 rfl 1 rfl ?_
  refine g_ctorF (pc := 58) (st := [.ref q9]) (w2 := ((q7, .inr (1, [.ref u8_0, .ref q5, .ref u8_2])) :: ((u8_0, .inr (6, [.int (6 : Int32), .ref u8_1, .int (0 : Int32)])) :: ((u8_1, .inl (c.1, 2304, .inl zf0)) :: ((u8_2, .inl (c.1, 8, .inl zf0)) :: ((q5, .inr (4, [.ref u6_0, .int 0])) :: ((u6_0, .inl (c.1, 900, .inl zf0)) :: ((q3, .inr (6, [.int (25 : Int32), .ref u4, .int (4 : Int32)])) :: ((u4, .inl (c.1, 100, .inl zf0)) :: ((q1, .inr (6, [.int (1 : Int32), .ref u2, .int (100 : Int32)])) :: ((u2, .inl (c.1, 100, .inl zf0)) :: ((a0, .inr (5, [.null, .null, .null, .null, .ref q1, .ref q3, .int 0])) :: [])))))))))))) hO hV zk_Fi_init rfl zL_St_35 (c_Fi_init c q9 q7 q5) rfl rfl rfl rfl rfl rfl rfl rfl d_St_init_58 13 3538 rfl rfl (fun w9 h9 => ?_)
  obtain ⟨u10_0, u10_1, rfl⟩ := h9
  have hO := hX.up 13 3538 rfl rfl
  show Go (zUp X 13 3538) ((q9, .inr (3, [.ref u10_0, .ref q7, .ref q5, .int 0, .int 0])) :: ((u10_0, .inr (6, [.int (13 : Int32), .ref u10_1, .int (0 : Int32)])) :: ((u10_1, .inl (c.1, 104, .inl zf0)) :: ((q7, .inr (1, [.ref u8_0, .ref q5, .ref u8_2])) :: ((u8_0, .inr (6, [.int (6 : Int32), .ref u8_1, .int (0 : Int32)])) :: ((u8_1, .inl (c.1, 2304, .inl zf0)) :: ((u8_2, .inl (c.1, 8, .inl zf0)) :: ((q5, .inr (4, [.ref u6_0, .int 0])) :: ((u6_0, .inl (c.1, 900, .inl zf0)) :: ((q3, .inr (6, [.int (25 : Int32), .ref u4, .int (4 : Int32)])) :: ((u4, .inl (c.1, 100, .inl zf0)) :: ((q1, .inr (6, [.int (1 : Int32), .ref u2, .int (100 : Int32)])) :: ((u2, .inl (c.1, 100, .inl zf0)) :: ((a0, .inr (5, [.null, .null, .null, .null, .ref q1, .ref q3, .int 0])) :: [])))))))))))))) [(2, .ref q7), (1, .ref q5), (0, .ref a0)] 61 [.ref q9]
  refine g_astore_n (pc := 61) (L' := [(3, .ref q9), (2, .ref q7), (1, .ref q5), (0, .ref a0)]) hO.ok d_St_init_61 rfl rfl rfl ?_
  refine g_aload_n (pc := 62) hO.ok d_St_init_62 rfl 3 rfl ?_
  refine g_aload_n (pc := 63) hO.ok d_St_init_63 rfl 2 rfl ?_
  refine g_putR (pc := 64) (X0 := X) (k1 := 13) (k2 := 3538) (C := zr_St) (T := zf_St) (N := 7) (ci := 5) (w' := ((q9, .inr (3, [.ref u10_0, .ref q7, .ref q5, .int 0, .int 0])) :: ((u10_0, .inr (6, [.int (13 : Int32), .ref u10_1, .int (0 : Int32)])) :: ((u10_1, .inl (c.1, 104, .inl zf0)) :: ((q7, .inr (1, [.ref u8_0, .ref q5, .ref u8_2])) :: ((u8_0, .inr (6, [.int (6 : Int32), .ref u8_1, .int (0 : Int32)])) :: ((u8_1, .inl (c.1, 2304, .inl zf0)) :: ((u8_2, .inl (c.1, 8, .inl zf0)) :: ((q5, .inr (4, [.ref u6_0, .int 0])) :: ((u6_0, .inl (c.1, 900, .inl zf0)) :: ((q3, .inr (6, [.int (25 : Int32), .ref u4, .int (4 : Int32)])) :: ((u4, .inl (c.1, 100, .inl zf0)) :: ((q1, .inr (6, [.int (1 : Int32), .ref u2, .int (100 : Int32)])) :: ((u2, .inl (c.1, 100, .inl zf0)) :: ((a0, .inr (5, [.ref q5, .null, .null, .null, .ref q1, .ref q3, .int 0])) :: []))))))))))))))) rfl hR zt_St zo_St zn_St hO.ok zi_St 0 rfl zH_St_38 rfl rfl rfl rfl rfl rfl 13 rfl rfl rfl d_St_init_64 ?_
  refine g_aload_n (pc := 67) hO.ok d_St_init_67 rfl 3 rfl ?_
  refine g_aload_n (pc := 68) hO.ok d_St_init_68 rfl 1 rfl ?_
  refine g_putR (pc := 69) (X0 := X) (k1 := 13) (k2 := 3538) (C := zr_St) (T := zf_St) (N := 7) (ci := 5) (w' := ((q9, .inr (3, [.ref u10_0, .ref q7, .ref q5, .int 0, .int 0])) :: ((u10_0, .inr (6, [.int (13 : Int32), .ref u10_1, .int (0 : Int32)])) :: ((u10_1, .inl (c.1, 104, .inl zf0)) :: ((q7, .inr (1, [.ref u8_0, .ref q5, .ref u8_2])) :: ((u8_0, .inr (6, [.int (6 : Int32), .ref u8_1, .int (0 : Int32)])) :: ((u8_1, .inl (c.1, 2304, .inl zf0)) :: ((u8_2, .inl (c.1, 8, .inl zf0)) :: ((q5, .inr (4, [.ref u6_0, .int 0])) :: ((u6_0, .inl (c.1, 900, .inl zf0)) :: ((q3, .inr (6, [.int (25 : Int32), .ref u4, .int (4 : Int32)])) :: ((u4, .inl (c.1, 100, .inl zf0)) :: ((q1, .inr (6, [.int (1 : Int32), .ref u2, .int (100 : Int32)])) :: ((u2, .inl (c.1, 100, .inl zf0)) :: ((a0, .inr (5, [.ref q5, .ref q7, .null, .null, .ref q1, .ref q3, .int 0])) :: []))))))))))))))) rfl hR zt_St zo_St zn_St hO.ok zi_St 1 rfl zH_St_42 rfl rfl rfl rfl rfl rfl 13 rfl rfl rfl d_St_init_69 ?_
  refine g_aload_n (pc := 72) hO.ok d_St_init_72 rfl 3 rfl ?_
  refine g_aload_n (pc := 73) hO.ok d_St_init_73 rfl 0 rfl ?_
  refine g_putR (pc := 74) (X0 := X) (k1 := 13) (k2 := 3538) (C := zr_St) (T := zf_St) (N := 7) (ci := 5) (w' := ((q9, .inr (3, [.ref u10_0, .ref q7, .ref q5, .int 0, .int 0])) :: ((u10_0, .inr (6, [.int (13 : Int32), .ref u10_1, .int (0 : Int32)])) :: ((u10_1, .inl (c.1, 104, .inl zf0)) :: ((q7, .inr (1, [.ref u8_0, .ref q5, .ref u8_2])) :: ((u8_0, .inr (6, [.int (6 : Int32), .ref u8_1, .int (0 : Int32)])) :: ((u8_1, .inl (c.1, 2304, .inl zf0)) :: ((u8_2, .inl (c.1, 8, .inl zf0)) :: ((q5, .inr (4, [.ref u6_0, .int 0])) :: ((u6_0, .inl (c.1, 900, .inl zf0)) :: ((q3, .inr (6, [.int (25 : Int32), .ref u4, .int (4 : Int32)])) :: ((u4, .inl (c.1, 100, .inl zf0)) :: ((q1, .inr (6, [.int (1 : Int32), .ref u2, .int (100 : Int32)])) :: ((u2, .inl (c.1, 100, .inl zf0)) :: ((a0, .inr (5, [.ref q5, .ref q7, .ref q9, .null, .ref q1, .ref q3, .int 0])) :: []))))))))))))))) rfl hR zt_St zo_St zn_St hO.ok zi_St 2 rfl zH_St_46 rfl rfl rfl rfl rfl rfl 13 rfl rfl rfl d_St_init_74 ?_
  refine g_aload_n (pc := 77) hO.ok d_St_init_77 rfl 3 rfl ?_
  refine g_newF (pc := 78) (C := zr_En) (T := zf_En) (N := 11) (ci := 2) (fs := [.null, .null, .null, .null, .int 0, .int 0, .int 0, .int 0, .int 0, .int 0, .int 0]) hO zi_En zt_En zo_En zG_St_50 zN_En zI_En rfl (by decide +kernel) rfl rfl d_St_init_78 14 3549 rfl rfl (fun q11 => ?_)
  have hO := hX.up 14 3549 rfl rfl
  refine g_dup (pc := 81) hO.ok d_St_init_81 rfl ?_
  refine g_aload_n (pc := 82) hO.ok d_St_init_82 rfl 0 rfl ?_
  refine g_aload_n (pc := 83) hO.ok d_St_init_83 rfl 1 rfl ?_
  refine g_aload_n (pc := 84) hO.ok d_St_init_84 rfl 2 rfl ?_
  refine g_ctorF (pc := 85) (st := [.ref q11, .ref a0]) (w2 := ((q9, .inr (3, [.ref u10_0, .ref q7, .ref q5, .int 0, .int 0])) :: ((u10_0, .inr (6, [.int (13 : Int32), .ref u10_1, .int (0 : Int32)])) :: ((u10_1, .inl (c.1, 104, .inl zf0)) :: ((q7, .inr (1, [.ref u8_0, .ref q5, .ref u8_2])) :: ((u8_0, .inr (6, [.int (6 : Int32), .ref u8_1, .int (0 : Int32)])) :: ((u8_1, .inl (c.1, 2304, .inl zf0)) :: ((u8_2, .inl (c.1, 8, .inl zf0)) :: ((q5, .inr (4, [.ref u6_0, .int 0])) :: ((u6_0, .inl (c.1, 900, .inl zf0)) :: ((q3, .inr (6, [.int (25 : Int32), .ref u4, .int (4 : Int32)])) :: ((u4, .inl (c.1, 100, .inl zf0)) :: ((q1, .inr (6, [.int (1 : Int32), .ref u2, .int (100 : Int32)])) :: ((u2, .inl (c.1, 100, .inl zf0)) :: ((a0, .inr (5, [.ref q5, .ref q7, .ref q9, .null, .ref q1, .ref q3, .int 0])) :: []))))))))))))))) hO hV zk_En_init rfl zL_St_52 (c_En_init c q11 q9 q7 q5) rfl rfl rfl rfl rfl rfl rfl rfl d_St_init_85 16 3560 rfl rfl (fun w9 h9 => ?_)
  obtain ⟨u12_0, u12_1, rfl⟩ := h9
  have hO := hX.up 16 3560 rfl rfl
  show Go (zUp X 16 3560) ((q11, .inr (2, [.ref u12_0, .ref q9, .ref q7, .ref q5, .int 0, .int 0, .int 0, .int 0, .int 0, .int 0, .int 0])) :: ((u12_0, .inr (6, [.int (1 : Int32), .ref u12_1, .int (0 : Int32)])) :: ((u12_1, .inl (c.1, 8, .inl zf0)) :: ((q9, .inr (3, [.ref u10_0, .ref q7, .ref q5, .int 0, .int 0])) :: ((u10_0, .inr (6, [.int (13 : Int32), .ref u10_1, .int (0 : Int32)])) :: ((u10_1, .inl (c.1, 104, .inl zf0)) :: ((q7, .inr (1, [.ref u8_0, .ref q5, .ref u8_2])) :: ((u8_0, .inr (6, [.int (6 : Int32), .ref u8_1, .int (0 : Int32)])) :: ((u8_1, .inl (c.1, 2304, .inl zf0)) :: ((u8_2, .inl (c.1, 8, .inl zf0)) :: ((q5, .inr (4, [.ref u6_0, .int 0])) :: ((u6_0, .inl (c.1, 900, .inl zf0)) :: ((q3, .inr (6, [.int (25 : Int32), .ref u4, .int (4 : Int32)])) :: ((u4, .inl (c.1, 100, .inl zf0)) :: ((q1, .inr (6, [.int (1 : Int32), .ref u2, .int (100 : Int32)])) :: ((u2, .inl (c.1, 100, .inl zf0)) :: ((a0, .inr (5, [.ref q5, .ref q7, .ref q9, .null, .ref q1, .ref q3, .int 0])) :: []))))))))))))))))) [(3, .ref q9), (2, .ref q7), (1, .ref q5), (0, .ref a0)] 88 [.ref q11, .ref a0]
  refine g_putR (pc := 88) (X0 := X) (k1 := 16) (k2 := 3560) (C := zr_St) (T := zf_St) (N := 7) (ci := 5) (w' := ((q11, .inr (2, [.ref u12_0, .ref q9, .ref q7, .ref q5, .int 0, .int 0, .int 0, .int 0, .int 0, .int 0, .int 0])) :: ((u12_0, .inr (6, [.int (1 : Int32), .ref u12_1, .int (0 : Int32)])) :: ((u12_1, .inl (c.1, 8, .inl zf0)) :: ((q9, .inr (3, [.ref u10_0, .ref q7, .ref q5, .int 0, .int 0])) :: ((u10_0, .inr (6, [.int (13 : Int32), .ref u10_1, .int (0 : Int32)])) :: ((u10_1, .inl (c.1, 104, .inl zf0)) :: ((q7, .inr (1, [.ref u8_0, .ref q5, .ref u8_2])) :: ((u8_0, .inr (6, [.int (6 : Int32), .ref u8_1, .int (0 : Int32)])) :: ((u8_1, .inl (c.1, 2304, .inl zf0)) :: ((u8_2, .inl (c.1, 8, .inl zf0)) :: ((q5, .inr (4, [.ref u6_0, .int 0])) :: ((u6_0, .inl (c.1, 900, .inl zf0)) :: ((q3, .inr (6, [.int (25 : Int32), .ref u4, .int (4 : Int32)])) :: ((u4, .inl (c.1, 100, .inl zf0)) :: ((q1, .inr (6, [.int (1 : Int32), .ref u2, .int (100 : Int32)])) :: ((u2, .inl (c.1, 100, .inl zf0)) :: ((a0, .inr (5, [.ref q5, .ref q7, .ref q9, .ref q11, .ref q1, .ref q3, .int 0])) :: [])))))))))))))))))) rfl hR zt_St zo_St zn_St hO.ok zi_St 3 rfl zH_St_55 rfl rfl rfl rfl rfl rfl 16 rfl rfl rfl d_St_init_88 ?_
  refine g_sub (w' := zwS c (fun i => [q5, u6_0, q7, u8_0, u8_1, u8_2, q9, u10_0, u10_1, q11, u12_0, u12_1, a0, q1, u2, q3, u4].getD i 0) zs0) [10, 11, 6, 7, 8, 9, 3, 4, 5, 0, 1, 2, 16, 14, 15, 12, 13] rfl rfl ?_
  exact g_cret (X0 := X) rfl hR hO.ok ⟨(fun i => [q5, u6_0, q7, u8_0, u8_1, u8_2, q9, u10_0, u10_1, q11, u12_0, u12_1, a0, q1, u2, q3, u4].getD i 0), rfl, rfl⟩ d_St_init_91)
def zeV (v : Nat → Nat → Nat) : Nat → Option Nat := fun i => if i < 6 then some (v i 12) else none
def zwKv (c : zY) (a0 a1 : Nat) (e : Nat → Option Nat) (v : Nat → Nat → Nat) : va_W := (a0, .inr (0, [.ref a1, .int 0, .int 0])) :: (a1, .inl (c.2.2, 6, .inr (.inr (.inr (.inr e))))) :: (zwS c (v 0) zs0 ++ (zwS c (v 1) zs0 ++ (zwS c (v 2) zs0 ++ (zwS c (v 3) zs0 ++ (zwS c (v 4) zs0 ++ zwS c (v 5) zs0)))))
theorem d_Ch_init_0 : decode zb_Ch_init 0 = .ok (.aload_n 0, 1) := by decide +kernel
theorem d_Ch_init_1 : decode zb_Ch_init 1 = .ok (.invokespecial 1, 3) := by decide +kernel
theorem d_Ch_init_4 : decode zb_Ch_init 4 = .ok (.aload_n 0, 1) := by decide +kernel
theorem d_Ch_init_5 : decode zb_Ch_init 5 = .ok (.bipush 6, 2) := by decide +kernel
theorem d_Ch_init_7 : decode zb_Ch_init 7 = .ok (.anewarray 9, 3) := by decide +kernel
theorem d_Ch_init_10 : decode zb_Ch_init 10 = .ok (.putfield 11, 3) := by decide +kernel
theorem d_Ch_init_13 : decode zb_Ch_init 13 = .ok (.iconst 0, 1) := by decide +kernel
theorem d_Ch_init_14 : decode zb_Ch_init 14 = .ok (.istore_n 1, 1) := by decide +kernel
theorem d_Ch_init_15 : decode zb_Ch_init 15 = .ok (.iload_n 1, 1) := by decide +kernel
theorem d_Ch_init_16 : decode zb_Ch_init 16 = .ok (.aload_n 0, 1) := by decide +kernel
theorem d_Ch_init_17 : decode zb_Ch_init 17 = .ok (.getfield 11, 3) := by decide +kernel
theorem d_Ch_init_20 : decode zb_Ch_init 20 = .ok (.arraylength, 1) := by decide +kernel
theorem d_Ch_init_21 : decode zb_Ch_init 21 = .ok (.if_icmp .ge 22, 3) := by decide +kernel
theorem d_Ch_init_24 : decode zb_Ch_init 24 = .ok (.aload_n 0, 1) := by decide +kernel
theorem d_Ch_init_25 : decode zb_Ch_init 25 = .ok (.getfield 11, 3) := by decide +kernel
theorem d_Ch_init_28 : decode zb_Ch_init 28 = .ok (.iload_n 1, 1) := by decide +kernel
theorem d_Ch_init_29 : decode zb_Ch_init 29 = .ok (.new 9, 3) := by decide +kernel
theorem d_Ch_init_32 : decode zb_Ch_init 32 = .ok (.dup, 1) := by decide +kernel
theorem d_Ch_init_33 : decode zb_Ch_init 33 = .ok (.invokespecial 15, 3) := by decide +kernel
theorem d_Ch_init_36 : decode zb_Ch_init 36 = .ok (.aastore, 1) := by decide +kernel
theorem d_Ch_init_37 : decode zb_Ch_init 37 = .ok (.iinc 1 1, 3) := by decide +kernel
theorem d_Ch_init_40 : decode zb_Ch_init 40 = .ok (.goto (-25), 3) := by decide +kernel
theorem d_Ch_init_43 : decode zb_Ch_init 43 = .ok (.return_, 1) := by decide +kernel
set_option maxRecDepth 20000 in
theorem c_Ch_init (c : zY) (a0 : Nat) : KC zy_Ch_init zb_Ch_init 2 4 103 21408 c [.ref a0] ((a0, .inr (0, [.null, .int 0, .int 0])) :: []) (fun w2 => ∃ (a1 : Nat) (v : Nat → Nat → Nat), w2 = zwKv c a0 a1 (zeV v) v) := zC_of zp_Ch rfl rfl (Nat.le_of_ble_eq_true rfl) (fun X sz hX hR hV => by
  show Go X ((a0, .inr (0, [.null, .int 0, .int 0])) :: []) [(0, .ref a0)] 0 []
  refine zUp_0 ?_
  have hO := hX.up0
  refine g_aload_n (pc := 0) hO.ok d_Ch_init_0 rfl 0 rfl ?_
  refine g_obj (pc := 1) hO.ok zL_Ch_1 rfl rfl d_Ch_init_1 ?_
  refine g_aload_n (pc := 4) hO.ok d_Ch_init_4 rfl 0 rfl ?_
  refine g_bipush (pc := 5) hO.ok d_Ch_init_5 ze_6 ?_
  refine g_newSF (pc := 7) hO hV 6 (by decide) (by decide) rfl zG_Ch_9 rfl rfl d_Ch_init_7 1 6 rfl rfl (fun q1 => ?_)
  have hO := hX.up 1 6 rfl rfl
  refine g_putR (pc := 10) (X0 := X) (k1 := 1) (k2 := 6) (C := zr_Ch) (T := zf_Ch) (N := 3) (ci := 0) (w' := ((q1, .inl (c.2.2, 6, .inr (.inr (.inr (.inr (fun _ => none)))))) :: ((a0, .inr (0, [.ref q1, .int 0, .int 0])) :: []))) rfl hR zt_Ch zo_Ch zn_Ch hO.ok zi_Ch 0 rfl zH_Ch_11 rfl rfl rfl rfl rfl rfl 1 rfl rfl rfl d_Ch_init_10 ?_
  refine g_iconst (pc := 13) hO.ok d_Ch_init_13 zc_0 ?_
  refine g_istore_n (pc := 14) (L' := [(1, .int ((0 : Int32))), (0, .ref a0)]) hO.ok d_Ch_init_14 rfl rfl rfl ?_
  refine g_iload_n (pc := 15) hO.ok d_Ch_init_15 rfl 0 rfl ?_
  refine g_aload_n (pc := 16) hO.ok d_Ch_init_16 rfl 1 rfl ?_
  refine gf_Ch_11 (pc := 17) (v := .ref q1) hO.ok 1 rfl rfl d_Ch_init_17 ?_
  refine g_alenS (pc := 20) (v := (6 : Int32)) hO.ok 0 rfl rfl d_Ch_init_20 ?_
  refine g_icmp_ge (pc := 21) (tgt := 43) (K := some ()) (K2 := some ()) (o := ()) hO.ok d_Ch_init_21 (by decide) (by split <;> rfl) (fun c9 _ => absurd (by decide) c9) (fun c9 _ => ?_)
  refine g_aload_n (pc := 24) hO.ok d_Ch_init_24 rfl 1 rfl ?_
  refine gf_Ch_11 (pc := 25) (v := .ref q1) hO.ok 1 rfl rfl d_Ch_init_25 ?_
  refine g_iload_n (pc := 28) hO.ok d_Ch_init_28 rfl 0 rfl ?_
  refine g_newF (pc := 29) (C := zr_St) (T := zf_St) (N := 7) (ci := 5) (fs := [.null, .null, .null, .null, .null, .null, .int 0]) hO zi_St zt_St zo_St zG_Ch_9 zN_St zI_St rfl (by decide +kernel) rfl rfl d_Ch_init_29 2 13 rfl rfl (fun q2 => ?_)
  have hO := hX.up 2 13 rfl rfl
  refine g_dup (pc := 32) hO.ok d_Ch_init_32 rfl ?_
  refine g_ctorF (pc := 33) (st := [.ref q2, .int ((0 : Int32)), .ref q1]) (w2 := ((q1, .inl (c.2.2, 6, .inr (.inr (.inr (.inr (fun _ => none)))))) :: ((a0, .inr (0, [.ref q1, .int 0, .int 0])) :: []))) hO hV zk_St_init rfl zL_Ch_15 (c_St_init c q2) rfl rfl rfl rfl rfl rfl rfl rfl d_Ch_init_33 18 3573 rfl rfl (fun w9 h9 => ?_)
  obtain ⟨v3, rfl, rfl⟩ := h9
  have hO := hX.up 18 3573 rfl rfl
  show Go (zUp X 18 3573) (zwS c v3 zs0 ++ ((q1, .inl (c.2.2, 6, .inr (.inr (.inr (.inr (fun _ => none)))))) :: ((a0, .inr (0, [.ref q1, .int 0, .int 0])) :: []))) [(1, .int ((0 : Int32))), (0, .ref a0)] 36 [.ref ((v3 12)), .int ((0 : Int32)), .ref q1]
  refine g_aast (pc := 36) (w' := (zwS c v3 zs0 ++ ((q1, .inl (c.2.2, 6, .inr (.inr (.inr (.inr (va_up (fun _ => none) 0 (some ((v3 12))))))))) :: ((a0, .inr (0, [.ref q1, .int 0, .int 0])) :: [])))) hO.ok 17 12 rfl rfl (by decide) rfl d_Ch_init_36 ?_
  refine g_iinc (pc := 37) (q := 0) (L' := [(1, .int ((1 : Int32))), (0, .ref a0)]) hO.ok d_Ch_init_37 rfl zc_1 rfl rfl ?_
  refine g_goto (pc := 40) (tgt := 15) hO.ok d_Ch_init_40 (by decide) ?_
  refine g_iload_n (pc := 15) hO.ok d_Ch_init_15 rfl 0 rfl ?_
  refine g_aload_n (pc := 16) hO.ok d_Ch_init_16 rfl 1 rfl ?_
  refine gf_Ch_11 (pc := 17) (v := .ref q1) hO.ok 18 rfl rfl d_Ch_init_17 ?_
  refine g_alenS (pc := 20) (v := (6 : Int32)) hO.ok 17 rfl rfl d_Ch_init_20 ?_
  refine g_icmp_ge (pc := 21) (tgt := 43) (K := some ()) (K2 := some ()) (o := ()) hO.ok d_Ch_init_21 (by decide) (by split <;> rfl) (fun c9 _ => absurd (by decide) c9) (fun c9 _ => ?_)
  refine g_aload_n (pc := 24) hO.ok d_Ch_init_24 rfl 1 rfl ?_
  refine gf_Ch_11 (pc := 25) (v := .ref q1) hO.ok 18 rfl rfl d_Ch_init_25 ?_
  refine g_iload_n (pc := 28) hO.ok d_Ch_init_28 rfl 0 rfl ?_
  refine g_newF (pc := 29) (C := zr_St) (T := zf_St) (N := 7) (ci := 5) (fs := [.null, .null, .null, .null, .null, .null, .int 0]) hO zi_St zt_St zo_St zG_Ch_9 zN_St zI_St rfl (by decide +kernel) rfl rfl d_Ch_init_29 19 3580 rfl rfl (fun q4 => ?_)
  have hO := hX.up 19 3580 rfl rfl
  refine g_dup (pc := 32) hO.ok d_Ch_init_32 rfl ?_
  refine g_ctorF (pc := 33) (st := [.ref q4, .int ((1 : Int32)), .ref q1]) (w2 := (zwS c v3 zs0 ++ ((q1, .inl (c.2.2, 6, .inr (.inr (.inr (.inr (va_up (fun _ => none) 0 (some ((v3 12))))))))) :: ((a0, .inr (0, [.ref q1, .int 0, .int 0])) :: [])))) hO hV zk_St_init rfl zL_Ch_15 (c_St_init c q4) rfl rfl rfl rfl rfl rfl rfl rfl d_Ch_init_33 35 7140 rfl rfl (fun w9 h9 => ?_)
  obtain ⟨v5, rfl, rfl⟩ := h9
  have hO := hX.up 35 7140 rfl rfl
  show Go (zUp X 35 7140) (zwS c v5 zs0 ++ (zwS c v3 zs0 ++ ((q1, .inl (c.2.2, 6, .inr (.inr (.inr (.inr (va_up (fun _ => none) 0 (some ((v3 12))))))))) :: ((a0, .inr (0, [.ref q1, .int 0, .int 0])) :: [])))) [(1, .int ((1 : Int32))), (0, .ref a0)] 36 [.ref ((v5 12)), .int ((1 : Int32)), .ref q1]
  refine g_aast (pc := 36) (w' := (zwS c v5 zs0 ++ (zwS c v3 zs0 ++ ((q1, .inl (c.2.2, 6, .inr (.inr (.inr (.inr (va_up (va_up (fun _ => none) 0 (some ((v3 12)))) 1 (some ((v5 12))))))))) :: ((a0, .inr (0, [.ref q1, .int 0, .int 0])) :: []))))) hO.ok 34 12 rfl rfl (by decide) rfl d_Ch_init_36 ?_
  refine g_iinc (pc := 37) (q := 0) (L' := [(1, .int ((2 : Int32))), (0, .ref a0)]) hO.ok d_Ch_init_37 rfl zc_1 rfl rfl ?_
  refine g_goto (pc := 40) (tgt := 15) hO.ok d_Ch_init_40 (by decide) ?_
  refine g_iload_n (pc := 15) hO.ok d_Ch_init_15 rfl 0 rfl ?_
  refine g_aload_n (pc := 16) hO.ok d_Ch_init_16 rfl 1 rfl ?_
  refine gf_Ch_11 (pc := 17) (v := .ref q1) hO.ok 35 rfl rfl d_Ch_init_17 ?_
  refine g_alenS (pc := 20) (v := (6 : Int32)) hO.ok 34 rfl rfl d_Ch_init_20 ?_
  refine g_icmp_ge (pc := 21) (tgt := 43) (K := some ()) (K2 := some ()) (o := ()) hO.ok d_Ch_init_21 (by decide) (by split <;> rfl) (fun c9 _ => absurd (by decide) c9) (fun c9 _ => ?_)
  refine g_aload_n (pc := 24) hO.ok d_Ch_init_24 rfl 1 rfl ?_
  refine gf_Ch_11 (pc := 25) (v := .ref q1) hO.ok 35 rfl rfl d_Ch_init_25 ?_
  refine g_iload_n (pc := 28) hO.ok d_Ch_init_28 rfl 0 rfl ?_
  refine g_newF (pc := 29) (C := zr_St) (T := zf_St) (N := 7) (ci := 5) (fs := [.null, .null, .null, .null, .null, .null, .int 0]) hO zi_St zt_St zo_St zG_Ch_9 zN_St zI_St rfl (by decide +kernel) rfl rfl d_Ch_init_29 36 7147 rfl rfl (fun q6 => ?_)
  have hO := hX.up 36 7147 rfl rfl
  refine g_dup (pc := 32) hO.ok d_Ch_init_32 rfl ?_
  refine g_ctorF (pc := 33) (st := [.ref q6, .int ((2 : Int32)), .ref q1]) (w2 := (zwS c v5 zs0 ++ (zwS c v3 zs0 ++ ((q1, .inl (c.2.2, 6, .inr (.inr (.inr (.inr (va_up (va_up (fun _ => none) 0 (some ((v3 12)))) 1 (some ((v5 12))))))))) :: ((a0, .inr (0, [.ref q1, .int 0, .int 0])) :: []))))) hO hV zk_St_init rfl zL_Ch_15 (c_St_init c q6) rfl rfl rfl rfl rfl rfl rfl rfl d_Ch_init_33 52 10707 rfl rfl (fun w9 h9 => ?_)
  obtain ⟨v7, rfl, rfl⟩ := h9
  have hO := hX.up 52 10707 rfl rfl
  show Go (zUp X 52 10707) (zwS c v7 zs0 ++ (zwS c v5 zs0 ++ (zwS c v3 zs0 ++ ((q1, .inl (c.2.2, 6, .inr (.inr (.inr (.inr (va_up (va_up (fun _ => none) 0 (some ((v3 12)))) 1 (some ((v5 12))))))))) :: ((a0, .inr (0, [.ref q1, .int 0, .int 0])) :: []))))) [(1, .int ((2 : Int32))), (0, .ref a0)] 36 [.ref ((v7 12)), .int ((2 : Int32)), .ref q1]
  refine g_aast (pc := 36) (w' := (zwS c v7 zs0 ++ (zwS c v5 zs0 ++ (zwS c v3 zs0 ++ ((q1, .inl (c.2.2, 6, .inr (.inr (.inr (.inr (va_up (va_up (va_up (fun _ => none) 0 (some ((v3 12)))) 1 (some ((v5 12)))) 2 (some ((v7 12))))))))) :: ((a0, .inr (0, [.ref q1, .int 0, .int 0])) :: [])))))) hO.ok 51 12 rfl rfl (by decide) rfl d_Ch_init_36 ?_
  refine g_iinc (pc := 37) (q := 0) (L' := [(1, .int ((3 : Int32))), (0, .ref a0)]) hO.ok d_Ch_init_37 rfl zc_1 rfl rfl ?_
  refine g_goto (pc := 40) (tgt := 15) hO.ok d_Ch_init_40 (by decide) ?_
  refine g_iload_n (pc := 15) hO.ok d_Ch_init_15 rfl 0 rfl ?_
  refine g_aload_n (pc := 16) hO.ok d_Ch_init_16 rfl 1 rfl ?_
  refine gf_Ch_11 (pc := 17) (v := .ref q1) hO.ok 52 rfl rfl d_Ch_init_17 ?_
  refine g_alenS (pc := 20) (v := (6 : Int32)) hO.ok 51 rfl rfl d_Ch_init_20 ?_
  refine g_icmp_ge (pc := 21) (tgt := 43) (K := some ()) (K2 := some ()) (o := ()) hO.ok d_Ch_init_21 (by decide) (by split <;> rfl) (fun c9 _ => absurd (by decide) c9) (fun c9 _ => ?_)
  refine g_aload_n (pc := 24) hO.ok d_Ch_init_24 rfl 1 rfl ?_
  refine gf_Ch_11 (pc := 25) (v := .ref q1) hO.ok 52 rfl rfl d_Ch_init_25 ?_
  refine g_iload_n (pc := 28) hO.ok d_Ch_init_28 rfl 0 rfl ?_
  refine g_newF (pc := 29) (C := zr_St) (T := zf_St) (N := 7) (ci := 5) (fs := [.null, .null, .null, .null, .null, .null, .int 0]) hO zi_St zt_St zo_St zG_Ch_9 zN_St zI_St rfl (by decide +kernel) rfl rfl d_Ch_init_29 53 10714 rfl rfl (fun q8 => ?_)
  have hO := hX.up 53 10714 rfl rfl
  refine g_dup (pc := 32) hO.ok d_Ch_init_32 rfl ?_
  refine g_ctorF (pc := 33) (st := [.ref q8, .int ((3 : Int32)), .ref q1]) (w2 := (zwS c v7 zs0 ++ (zwS c v5 zs0 ++ (zwS c v3 zs0 ++ ((q1, .inl (c.2.2, 6, .inr (.inr (.inr (.inr (va_up (va_up (va_up (fun _ => none) 0 (some ((v3 12)))) 1 (some ((v5 12)))) 2 (some ((v7 12))))))))) :: ((a0, .inr (0, [.ref q1, .int 0, .int 0])) :: [])))))) hO hV zk_St_init rfl zL_Ch_15 (c_St_init c q8) rfl rfl rfl rfl rfl rfl rfl rfl d_Ch_init_33 69 14274 rfl rfl (fun w9 h9 => ?_)
  obtain ⟨v9, rfl, rfl⟩ := h9
  have hO := hX.up 69 14274 rfl rfl
  show Go (zUp X 69 14274) (zwS c v9 zs0 ++ (zwS c v7 zs0 ++ (zwS c v5 zs0 ++ (zwS c v3 zs0 ++ ((q1, .inl (c.2.2, 6, .inr (.inr (.inr (.inr (va_up (va_up (va_up (fun _ => none) 0 (some ((v3 12)))) 1 (some ((v5 12)))) 2 (some ((v7 12))))))))) :: ((a0, .inr (0, [.ref q1, .int 0, .int 0])) :: [])))))) [(1, .int ((3 : Int32))), (0, .ref a0)] 36 [.ref ((v9 12)), .int ((3 : Int32)), .ref q1]
  refine g_aast (pc := 36) (w' := (zwS c v9 zs0 ++ (zwS c v7 zs0 ++ (zwS c v5 zs0 ++ (zwS c v3 zs0 ++ ((q1, .inl (c.2.2, 6, .inr (.inr (.inr (.inr (va_up (va_up (va_up (va_up (fun _ => none) 0 (some ((v3 12)))) 1 (some ((v5 12)))) 2 (some ((v7 12)))) 3 (some ((v9 12))))))))) :: ((a0, .inr (0, [.ref q1, .int 0, .int 0])) :: []))))))) hO.ok 68 12 rfl rfl (by decide) rfl d_Ch_init_36 ?_
  refine g_iinc (pc := 37) (q := 0) (L' := [(1, .int ((4 : Int32))), (0, .ref a0)]) hO.ok d_Ch_init_37 rfl zc_1 rfl rfl ?_
  refine g_goto (pc := 40) (tgt := 15) hO.ok d_Ch_init_40 (by decide) ?_
  refine g_iload_n (pc := 15) hO.ok d_Ch_init_15 rfl 0 rfl ?_
  refine g_aload_n (pc := 16) hO.ok d_Ch_init_16 rfl 1 rfl ?_
  refine gf_Ch_11 (pc := 17) (v := .ref q1) hO.ok 69 rfl rfl d_Ch_init_17 ?_
  refine g_alenS (pc := 20) (v := (6 : Int32)) hO.ok 68 rfl rfl d_Ch_init_20 ?_
  refine g_icmp_ge (pc := 21) (tgt := 43) (K := some ()) (K2 := some ()) (o := ()) hO.ok d_Ch_init_21 (by decide) (by split <;> rfl) (fun c9 _ => absurd (by decide) c9) (fun c9 _ => ?_)
  refine g_aload_n (pc := 24) hO.ok d_Ch_init_24 rfl 1 rfl ?_
  refine gf_Ch_11 (pc := 25) (v := .ref q1) hO.ok 69 rfl rfl d_Ch_init_25 ?_
  refine g_iload_n (pc := 28) hO.ok d_Ch_init_28 rfl 0 rfl ?_
  refine g_newF (pc := 29) (C := zr_St) (T := zf_St) (N := 7) (ci := 5) (fs := [.null, .null, .null, .null, .null, .null, .int 0]) hO zi_St zt_St zo_St zG_Ch_9 zN_St zI_St rfl (by decide +kernel) rfl rfl d_Ch_init_29 70 14281 rfl rfl (fun q10 => ?_)
  have hO := hX.up 70 14281 rfl rfl
  refine g_dup (pc := 32) hO.ok d_Ch_init_32 rfl ?_
  refine g_ctorF (pc := 33) (st := [.ref q10, .int ((4 : Int32)), .ref q1]) (w2 := (zwS c v9 zs0 ++ (zwS c v7 zs0 ++ (zwS c v5 zs0 ++ (zwS c v3 zs0 ++ ((q1, .inl (c.2.2, 6, .inr (.inr (.inr (.inr (va_up (va_up (va_up (va_up (fun _ => none) 0 (some ((v3 12)))) 1 (some ((v5 12)))) 2 (some ((v7 12)))) 3 (some ((v9 12))))))))) :: ((a0, .inr (0, [.ref q1, .int 0, .int 0])) :: []))))))) hO hV zk_St_init rfl zL_Ch_15 (c_St_init c q10) rfl rfl rfl rfl rfl rfl rfl rfl d_Ch_init_33 86 17841 rfl rfl (fun w9 h9 => ?_)
  obtain ⟨v11, rfl, rfl⟩ := h9
  have hO := hX.up 86 17841 rfl rfl
  show Go (zUp X 86 17841) (zwS c v11 zs0 ++ (zwS c v9 zs0 ++ (zwS c v7 zs0 ++ (zwS c v5 zs0 ++ (zwS c v3 zs0 ++ ((q1, .inl (c.2.2, 6, .inr (.inr (.inr (.inr (va_up (va_up (va_up (va_up (fun _ => none) 0 (some ((v3 12)))) 1 (some ((v5 12)))) 2 (some ((v7 12)))) 3 (some ((v9 12))))))))) :: ((a0, .inr (0, [.ref q1, .int 0, .int 0])) :: []))))))) [(1, .int ((4 : Int32))), (0, .ref a0)] 36 [.ref ((v11 12)), .int ((4 : Int32)), .ref q1]
  refine g_aast (pc := 36) (w' := (zwS c v11 zs0 ++ (zwS c v9 zs0 ++ (zwS c v7 zs0 ++ (zwS c v5 zs0 ++ (zwS c v3 zs0 ++ ((q1, .inl (c.2.2, 6, .inr (.inr (.inr (.inr (va_up (va_up (va_up (va_up (va_up (fun _ => none) 0 (some ((v3 12)))) 1 (some ((v5 12)))) 2 (some ((v7 12)))) 3 (some ((v9 12)))) 4 (some ((v11 12))))))))) :: ((a0, .inr (0, [.ref q1, .int 0, .int 0])) :: [])))))))) hO.ok 85 12 rfl rfl (by decide) rfl d_Ch_init_36 ?_
  refine g_iinc (pc := 37) (q := 0) (L' := [(1, .int ((5 : Int32))), (0, .ref a0)]) hO.ok d_Ch_init_37 rfl zc_1 rfl rfl ?_
  refine g_goto (pc := 40) (tgt := 15) hO.ok d_Ch_init_40 (by decide) ?_
  refine g_iload_n (pc := 15) hO.ok d_Ch_init_15 rfl 0 rfl ?_
  refine g_aload_n (pc := 16) hO.ok d_Ch_init_16 rfl 1 rfl ?_
  refine gf_Ch_11 (pc := 17) (v := .ref q1) hO.ok 86 rfl rfl d_Ch_init_17 ?_
  refine g_alenS (pc := 20) (v := (6 : Int32)) hO.ok 85 rfl rfl d_Ch_init_20 ?_
  refine g_icmp_ge (pc := 21) (tgt := 43) (K := some ()) (K2 := some ()) (o := ()) hO.ok d_Ch_init_21 (by decide) (by split <;> rfl) (fun c9 _ => absurd (by decide) c9) (fun c9 _ => ?_)
  refine g_aload_n (pc := 24) hO.ok d_Ch_init_24 rfl 1 rfl ?_
  refine gf_Ch_11 (pc := 25) (v := .ref q1) hO.ok 86 rfl rfl d_Ch_init_25 ?_
  refine g_iload_n (pc := 28) hO.ok d_Ch_init_28 rfl 0 rfl ?_
  refine g_newF (pc := 29) (C := zr_St) (T := zf_St) (N := 7) (ci := 5) (fs := [.null, .null, .null, .null, .null, .null, .int 0]) hO zi_St zt_St zo_St zG_Ch_9 zN_St zI_St rfl (by decide +kernel) rfl rfl d_Ch_init_29 87 17848 rfl rfl (fun q12 => ?_)
  have hO := hX.up 87 17848 rfl rfl
  refine g_dup (pc := 32) hO.ok d_Ch_init_32 rfl ?_
  refine g_ctorF (pc := 33) (st := [.ref q12, .int ((5 : Int32)), .ref q1]) (w2 := (zwS c v11 zs0 ++ (zwS c v9 zs0 ++ (zwS c v7 zs0 ++ (zwS c v5 zs0 ++ (zwS c v3 zs0 ++ ((q1, .inl (c.2.2, 6, .inr (.inr (.inr (.inr (va_up (va_up (va_up (va_up (va_up (fun _ => none) 0 (some ((v3 12)))) 1 (some ((v5 12)))) 2 (some ((v7 12)))) 3 (some ((v9 12)))) 4 (some ((v11 12))))))))) :: ((a0, .inr (0, [.ref q1, .int 0, .int 0])) :: [])))))))) hO hV zk_St_init rfl zL_Ch_15 (c_St_init c q12) rfl rfl rfl rfl rfl rfl rfl rfl d_Ch_init_33 103 21408 rfl rfl (fun w9 h9 => ?_)
  obtain ⟨v13, rfl, rfl⟩ := h9
  have hO := hX.up 103 21408 rfl rfl
  show Go (zUp X 103 21408) (zwS c v13 zs0 ++ (zwS c v11 zs0 ++ (zwS c v9 zs0 ++ (zwS c v7 zs0 ++ (zwS c v5 zs0 ++ (zwS c v3 zs0 ++ ((q1, .inl (c.2.2, 6, .inr (.inr (.inr (.inr (va_up (va_up (va_up (va_up (va_up (fun _ => none) 0 (some ((v3 12)))) 1 (some ((v5 12)))) 2 (some ((v7 12)))) 3 (some ((v9 12)))) 4 (some ((v11 12))))))))) :: ((a0, .inr (0, [.ref q1, .int 0, .int 0])) :: [])))))))) [(1, .int ((5 : Int32))), (0, .ref a0)] 36 [.ref ((v13 12)), .int ((5 : Int32)), .ref q1]
  refine g_aast (pc := 36) (w' := (zwS c v13 zs0 ++ (zwS c v11 zs0 ++ (zwS c v9 zs0 ++ (zwS c v7 zs0 ++ (zwS c v5 zs0 ++ (zwS c v3 zs0 ++ ((q1, .inl (c.2.2, 6, .inr (.inr (.inr (.inr (va_up (va_up (va_up (va_up (va_up (va_up (fun _ => none) 0 (some ((v3 12)))) 1 (some ((v5 12)))) 2 (some ((v7 12)))) 3 (some ((v9 12)))) 4 (some ((v11 12)))) 5 (some ((v13 12))))))))) :: ((a0, .inr (0, [.ref q1, .int 0, .int 0])) :: []))))))))) hO.ok 102 12 rfl rfl (by decide) rfl d_Ch_init_36 ?_
  refine g_iinc (pc := 37) (q := 0) (L' := [(1, .int ((6 : Int32))), (0, .ref a0)]) hO.ok d_Ch_init_37 rfl zc_1 rfl rfl ?_
  refine g_goto (pc := 40) (tgt := 15) hO.ok d_Ch_init_40 (by decide) ?_
  refine g_iload_n (pc := 15) hO.ok d_Ch_init_15 rfl 0 rfl ?_
  refine g_aload_n (pc := 16) hO.ok d_Ch_init_16 rfl 1 rfl ?_
  refine gf_Ch_11 (pc := 17) (v := .ref q1) hO.ok 103 rfl rfl d_Ch_init_17 ?_
  refine g_alenS (pc := 20) (v := (6 : Int32)) hO.ok 102 rfl rfl d_Ch_init_20 ?_
  refine g_icmp_ge (pc := 21) (tgt := 43) (K := some ()) (K2 := some ()) (o := ()) hO.ok d_Ch_init_21 (by decide) (by split <;> rfl) (fun c9 _ => ?_) (fun c9 _ => absurd c9 (by decide))
  have hf : (va_up (va_up (va_up (va_up (va_up (va_up (fun _ => none) 0 (some ((v3 12)))) 1 (some ((v5 12)))) 2 (some ((v7 12)))) 3 (some ((v9 12)))) 4 (some ((v11 12)))) 5 (some ((v13 12)))) = zeV (fun j => match j with | 0 => v3 | 1 => v5 | 2 => v7 | 3 => v9 | 4 => v11 | _ => v13) := by
    funext i
    match i with
    | 0 => simp [va_up, zeV]
    | 1 => simp [va_up, zeV]
    | 2 => simp [va_up, zeV]
    | 3 => simp [va_up, zeV]
    | 4 => simp [va_up, zeV]
    | 5 => simp [va_up, zeV]
    | k + 6 => simp [va_up, zeV]
  refine zperm (w' := zwKv c a0 q1 (va_up (va_up (va_up (va_up (va_up (va_up (fun _ => none) 0 (some ((v3 12)))) 1 (some ((v5 12)))) 2 (some ((v7 12)))) 3 (some ((v9 12)))) 4 (some ((v11 12)))) 5 (some ((v13 12)))) (fun j => match j with | 0 => v3 | 1 => v5 | 2 => v7 | 3 => v9 | 4 => v11 | _ => v13)) ?_ ?_
  · show List.Perm (zwS c v13 zs0 ++ (zwS c v11 zs0 ++ (zwS c v9 zs0 ++ (zwS c v7 zs0 ++ (zwS c v5 zs0 ++ (zwS c v3 zs0 ++ ((q1, .inl (c.2.2, 6, .inr (.inr (.inr (.inr (va_up (va_up (va_up (va_up (va_up (va_up (fun _ => none) 0 (some ((v3 12)))) 1 (some ((v5 12)))) 2 (some ((v7 12)))) 3 (some ((v9 12)))) 4 (some ((v11 12)))) 5 (some ((v13 12))))))))) :: ((a0, .inr (0, [.ref q1, .int 0, .int 0])) :: [])))))))) _
    refine zpc (fun _ _ a => ?_)
    simp only [zwKv, List.count_append, List.count_cons, List.count_nil]
    omega
  rw [hf]
  exact g_cret (X0 := X) rfl hR hO.ok ⟨q1, _, rfl⟩ d_Ch_init_43)
theorem d_EL_init_0 : decode zb_EL_init 0 = .ok (.aload_n 0, 1) := by decide +kernel
theorem d_EL_init_1 : decode zb_EL_init 1 = .ok (.invokespecial 1, 3) := by decide +kernel
theorem d_EL_init_4 : decode zb_EL_init 4 = .ok (.aload_n 0, 1) := by decide +kernel
theorem d_EL_init_5 : decode zb_EL_init 5 = .ok (.new 7, 3) := by decide +kernel
theorem d_EL_init_8 : decode zb_EL_init 8 = .ok (.dup, 1) := by decide +kernel
theorem d_EL_init_9 : decode zb_EL_init 9 = .ok (.invokespecial 9, 3) := by decide +kernel
theorem d_EL_init_12 : decode zb_EL_init 12 = .ok (.putfield 10, 3) := by decide +kernel
theorem d_EL_init_15 : decode zb_EL_init 15 = .ok (.aload_n 0, 1) := by decide +kernel
theorem d_EL_init_16 : decode zb_EL_init 16 = .ok (.new 7, 3) := by decide +kernel
theorem d_EL_init_19 : decode zb_EL_init 19 = .ok (.dup, 1) := by decide +kernel
theorem d_EL_init_20 : decode zb_EL_init 20 = .ok (.invokespecial 9, 3) := by decide +kernel
theorem d_EL_init_23 : decode zb_EL_init 23 = .ok (.putfield 16, 3) := by decide +kernel
theorem d_EL_init_26 : decode zb_EL_init 26 = .ok (.aload_n 0, 1) := by decide +kernel
theorem d_EL_init_27 : decode zb_EL_init 27 = .ok (.new 19, 3) := by decide +kernel
theorem d_EL_init_30 : decode zb_EL_init 30 = .ok (.dup, 1) := by decide +kernel
theorem d_EL_init_31 : decode zb_EL_init 31 = .ok (.invokespecial 21, 3) := by decide +kernel
theorem d_EL_init_34 : decode zb_EL_init 34 = .ok (.putfield 22, 3) := by decide +kernel
theorem d_EL_init_37 : decode zb_EL_init 37 = .ok (.aload_n 0, 1) := by decide +kernel
theorem d_EL_init_38 : decode zb_EL_init 38 = .ok (.new 26, 3) := by decide +kernel
theorem d_EL_init_41 : decode zb_EL_init 41 = .ok (.dup, 1) := by decide +kernel
theorem d_EL_init_42 : decode zb_EL_init 42 = .ok (.invokespecial 28, 3) := by decide +kernel
theorem d_EL_init_45 : decode zb_EL_init 45 = .ok (.putfield 29, 3) := by decide +kernel
theorem d_EL_init_48 : decode zb_EL_init 48 = .ok (.aload_n 0, 1) := by decide +kernel
theorem d_EL_init_49 : decode zb_EL_init 49 = .ok (.new 33, 3) := by decide +kernel
theorem d_EL_init_52 : decode zb_EL_init 52 = .ok (.dup, 1) := by decide +kernel
theorem d_EL_init_53 : decode zb_EL_init 53 = .ok (.invokespecial 35, 3) := by decide +kernel
theorem d_EL_init_56 : decode zb_EL_init 56 = .ok (.putfield 36, 3) := by decide +kernel
theorem d_EL_init_59 : decode zb_EL_init 59 = .ok (.aload_n 0, 1) := by decide +kernel
theorem d_EL_init_60 : decode zb_EL_init 60 = .ok (.iconst 0, 1) := by decide +kernel
theorem d_EL_init_61 : decode zb_EL_init 61 = .ok (.putfield 40, 3) := by decide +kernel
theorem d_EL_init_64 : decode zb_EL_init 64 = .ok (.aload_n 0, 1) := by decide +kernel
theorem d_EL_init_65 : decode zb_EL_init 65 = .ok (.bipush (-5), 2) := by decide +kernel
theorem d_EL_init_67 : decode zb_EL_init 67 = .ok (.putfield 44, 3) := by decide +kernel
theorem d_EL_init_70 : decode zb_EL_init 70 = .ok (.return_, 1) := by decide +kernel
set_option maxRecDepth 20000 in
theorem c_EL_init (c : zY) (a0 : Nat) : KC zy_EL_init zb_EL_init 1 5 144 28817 c [.ref a0] ((a0, .inr (9, [.null, .null, .null, .null, .null, .int 0, .int 0])) :: []) (fun w2 => ∃ q : Nat → Nat, q 17 = a0 ∧ w2 = zwX c q zx0) := zC_of zp_EL rfl rfl (Nat.le_of_ble_eq_true rfl) (fun X sz hX hR hV => by
  show Go X ((a0, .inr (9, [.null, .null, .null, .null, .null, .int 0, .int 0])) :: []) [(0, .ref a0)] 0 []
  refine zUp_0 ?_
  have hO := hX.up0
  refine g_aload_n (pc := 0) hO.ok d_EL_init_0 rfl 0 rfl ?_
  refine g_obj (pc := 1) hO.ok zL_EL_1 rfl rfl d_EL_init_1 ?_
  refine g_aload_n (pc := 4) hO.ok d_EL_init_4 rfl 0 rfl ?_
  refine g_newF (pc := 5) (C := zr_St) (T := zf_St) (N := 7) (ci := 5) (fs := [.null, .null, .null, .null, .null, .null, .int 0]) hO zi_St zt_St zo_St zG_EL_7 zN_St zI_St rfl (by decide +kernel) rfl rfl d_EL_init_5 1 7 rfl rfl (fun q1 => ?_)
  have hO := hX.up 1 7 rfl rfl
  refine g_dup (pc := 8) hO.ok d_EL_init_8 rfl ?_
  refine g_ctorF (pc := 9) (st := [.ref q1, .ref a0]) (w2 := ((a0, .inr (9, [.null, .null, .null, .null, .null, .int 0, .int 0])) :: [])) hO hV zk_St_init rfl zL_EL_9 (c_St_init c q1) rfl rfl rfl rfl rfl rfl rfl rfl d_EL_init_9 17 3567 rfl rfl (fun w9 h9 => ?_)
  obtain ⟨v2, rfl, rfl⟩ := h9
  have hO := hX.up 17 3567 rfl rfl
  show Go (zUp X 17 3567) (zwS c v2 zs0 ++ ((a0, .inr (9, [.null, .null, .null, .null, .null, .int 0, .int 0])) :: [])) [(0, .ref a0)] 12 [.ref ((v2 12)), .ref a0]
  refine g_putR (pc := 12) (X0 := X) (k1 := 17) (k2 := 3567) (C := zr_EL) (T := zf_EL) (N := 7) (ci := 9) (w' := (zwS c v2 zs0 ++ ((a0, .inr (9, [.ref ((v2 12)), .null, .null, .null, .null, .int 0, .int 0])) :: []))) rfl hR zt_EL zo_EL zn_EL hO.ok zi_EL 0 rfl zH_EL_10 rfl rfl rfl rfl rfl rfl 17 rfl rfl rfl d_EL_init_12 ?_
  refine g_aload_n (pc := 15) hO.ok d_EL_init_15 rfl 0 rfl ?_
  refine g_newF (pc := 16) (C := zr_St) (T := zf_St) (N := 7) (ci := 5) (fs := [.null, .null, .null, .null, .null, .null, .int 0]) hO zi_St zt_St zo_St zG_EL_7 zN_St zI_St rfl (by decide +kernel) rfl rfl d_EL_init_16 18 3574 rfl rfl (fun q3 => ?_)
  have hO := hX.up 18 3574 rfl rfl
  refine g_dup (pc := 19) hO.ok d_EL_init_19 rfl ?_
  refine g_ctorF (pc := 20) (st := [.ref q3, .ref a0]) (w2 := (zwS c v2 zs0 ++ ((a0, .inr (9, [.ref ((v2 12)), .null, .null, .null, .null, .int 0, .int 0])) :: []))) hO hV zk_St_init rfl zL_EL_9 (c_St_init c q3) rfl rfl rfl rfl rfl rfl rfl rfl d_EL_init_20 34 7134 rfl rfl (fun w9 h9 => ?_)
  obtain ⟨v4, rfl, rfl⟩ := h9
  have hO := hX.up 34 7134 rfl rfl
  show Go (zUp X 34 7134) (zwS c v4 zs0 ++ (zwS c v2 zs0 ++ ((a0, .inr (9, [.ref ((v2 12)), .null, .null, .null, .null, .int 0, .int 0])) :: []))) [(0, .ref a0)] 23 [.ref ((v4 12)), .ref a0]
  refine g_putR (pc := 23) (X0 := X) (k1 := 34) (k2 := 7134) (C := zr_EL) (T := zf_EL) (N := 7) (ci := 9) (w' := (zwS c v4 zs0 ++ (zwS c v2 zs0 ++ ((a0, .inr (9, [.ref ((v2 12)), .ref ((v4 12)), .null, .null, .null, .int 0, .int 0])) :: [])))) rfl hR zt_EL zo_EL zn_EL hO.ok zi_EL 1 rfl zH_EL_16 rfl rfl rfl rfl rfl rfl 34 rfl rfl rfl d_EL_init_23 ?_
  refine g_aload_n (pc := 26) hO.ok d_EL_init_26 rfl 0 rfl ?_
  refine g_newF (pc := 27) (C := zr_Ch) (T := zf_Ch) (N := 3) (ci := 0) (fs := [.null, .int 0, .int 0]) hO zi_Ch zt_Ch zo_Ch zG_EL_19 zN_Ch zI_Ch rfl (by decide +kernel) rfl rfl d_EL_init_27 35 7137 rfl rfl (fun q5 => ?_)
  have hO := hX.up 35 7137 rfl rfl
  refine g_dup (pc := 30) hO.ok d_EL_init_30 rfl ?_
  refine g_ctorF (pc := 31) (st := [.ref q5, .ref a0]) (w2 := (zwS c v4 zs0 ++ (zwS c v2 zs0 ++ ((a0, .inr (9, [.ref ((v2 12)), .ref ((v4 12)), .null, .null, .null, .int 0, .int 0])) :: [])))) hO hV zk_Ch_init rfl zL_EL_21 (c_Ch_init c q5) rfl rfl rfl rfl rfl rfl rfl rfl d_EL_init_31 138 28545 rfl rfl (fun w9 h9 => ?_)
  obtain ⟨k6, g6, rfl⟩ := h9
  have hO := hX.up 138 28545 rfl rfl
  show Go (zUp X 138 28545) (zwKv c q5 k6 (zeV g6) g6 ++ (zwS c v4 zs0 ++ (zwS c v2 zs0 ++ ((a0, .inr (9, [.ref ((v2 12)), .ref ((v4 12)), .null, .null, .null, .int 0, .int 0])) :: [])))) [(0, .ref a0)] 34 [.ref q5, .ref a0]
  refine g_putR (pc := 34) (X0 := X) (k1 := 138) (k2 := 28545) (C := zr_EL) (T := zf_EL) (N := 7) (ci := 9) (w' := (zwKv c q5 k6 (zeV g6) g6 ++ (zwS c v4 zs0 ++ (zwS c v2 zs0 ++ ((a0, .inr (9, [.ref ((v2 12)), .ref ((v4 12)), .ref q5, .null, .null, .int 0, .int 0])) :: []))))) rfl hR zt_EL zo_EL zn_EL hO.ok zi_EL 2 rfl zH_EL_22 rfl rfl rfl rfl rfl rfl 138 rfl rfl rfl d_EL_init_34 ?_
  refine g_aload_n (pc := 37) hO.ok d_EL_init_37 rfl 0 rfl ?_
  refine g_newF (pc := 38) (C := zr_Tp) (T := zf_Tp) (N := 4) (ci := 7) (fs := [.null, .null, .int 0, .int 0]) hO zi_Tp zt_Tp zo_Tp zG_EL_26 zN_Tp zI_Tp rfl (by decide +kernel) rfl rfl d_EL_init_38 139 28549 rfl rfl (fun q7 => ?_)
  have hO := hX.up 139 28549 rfl rfl
  refine g_dup (pc := 41) hO.ok d_EL_init_41 rfl ?_
  refine g_ctorN (pc := 42) (host := "EncounterLedger") (st := [.ref q7, .ref a0]) (w2 := (zwKv c q5 k6 (zeV g6) g6 ++ (zwS c v4 zs0 ++ (zwS c v2 zs0 ++ ((a0, .inr (9, [.ref ((v2 12)), .ref ((v4 12)), .ref q5, .null, .null, .int 0, .int 0])) :: []))))) hO hV zk_Tp_init rfl (List.mem_of_getElem? (i := 1) rfl) (c_Tp_init c q7) rfl rfl rfl rfl rfl rfl rfl rfl d_EL_init_42 141 28614 rfl rfl (fun w9 h9 => ?_)
  obtain ⟨u8_0, u8_1, rfl⟩ := h9
  have hO := hX.up 141 28614 rfl rfl
  show Go (zUp X 141 28614) ((q7, .inr (7, [.ref u8_0, .ref u8_1, .int 0, .int 0])) :: ((u8_0, .inl (c.1, 40, .inl zf0)) :: ((u8_1, .inl (c.1, 25, .inl zf0)) :: (zwKv c q5 k6 (zeV g6) g6 ++ (zwS c v4 zs0 ++ (zwS c v2 zs0 ++ ((a0, .inr (9, [.ref ((v2 12)), .ref ((v4 12)), .ref q5, .null, .null, .int 0, .int 0])) :: []))))))) [(0, .ref a0)] 45 [.ref q7, .ref a0]
  refine g_putR (pc := 45) (X0 := X) (k1 := 141) (k2 := 28614) (C := zr_EL) (T := zf_EL) (N := 7) (ci := 9) (w' := ((q7, .inr (7, [.ref u8_0, .ref u8_1, .int 0, .int 0])) :: ((u8_0, .inl (c.1, 40, .inl zf0)) :: ((u8_1, .inl (c.1, 25, .inl zf0)) :: (zwKv c q5 k6 (zeV g6) g6 ++ (zwS c v4 zs0 ++ (zwS c v2 zs0 ++ ((a0, .inr (9, [.ref ((v2 12)), .ref ((v4 12)), .ref q5, .ref q7, .null, .int 0, .int 0])) :: [])))))))) rfl hR zt_EL zo_EL zn_EL hO.ok zi_EL 3 rfl zH_EL_29 rfl rfl rfl rfl rfl rfl 141 rfl rfl rfl d_EL_init_45 ?_
  refine g_aload_n (pc := 48) hO.ok d_EL_init_48 rfl 0 rfl ?_
  refine g_newF (pc := 49) (C := zr_Wa) (T := zf_Wa) (N := 3) (ci := 8) (fs := [.null, .null, .int 0]) hO zi_Wa zt_Wa zo_Wa zG_EL_33 zN_Wa zI_Wa rfl (by decide +kernel) rfl rfl d_EL_init_49 142 28617 rfl rfl (fun q9 => ?_)
  have hO := hX.up 142 28617 rfl rfl
  refine g_dup (pc := 52) hO.ok d_EL_init_52 rfl ?_
  refine g_ctorN (pc := 53) (host := "EncounterLedger") (st := [.ref q9, .ref a0]) (w2 := ((q7, .inr (7, [.ref u8_0, .ref u8_1, .int 0, .int 0])) :: ((u8_0, .inl (c.1, 40, .inl zf0)) :: ((u8_1, .inl (c.1, 25, .inl zf0)) :: (zwKv c q5 k6 (zeV g6) g6 ++ (zwS c v4 zs0 ++ (zwS c v2 zs0 ++ ((a0, .inr (9, [.ref ((v2 12)), .ref ((v4 12)), .ref q5, .ref q7, .null, .int 0, .int 0])) :: [])))))))) hO hV zk_Wa_init rfl (List.mem_of_getElem? (i := 2) rfl) (c_Wa_init c q9) rfl rfl rfl rfl rfl rfl rfl rfl d_EL_init_53 144 28817 rfl rfl (fun w9 h9 => ?_)
  obtain ⟨u10_0, u10_1, rfl⟩ := h9
  have hO := hX.up 144 28817 rfl rfl
  show Go (zUp X 144 28817) ((q9, .inr (8, [.ref u10_0, .ref u10_1, .int 0])) :: ((u10_0, .inl (c.1, 100, .inl zf0)) :: ((u10_1, .inl (c.1, 100, .inl zf0)) :: ((q7, .inr (7, [.ref u8_0, .ref u8_1, .int 0, .int 0])) :: ((u8_0, .inl (c.1, 40, .inl zf0)) :: ((u8_1, .inl (c.1, 25, .inl zf0)) :: (zwKv c q5 k6 (zeV g6) g6 ++ (zwS c v4 zs0 ++ (zwS c v2 zs0 ++ ((a0, .inr (9, [.ref ((v2 12)), .ref ((v4 12)), .ref q5, .ref q7, .null, .int 0, .int 0])) :: [])))))))))) [(0, .ref a0)] 56 [.ref q9, .ref a0]
  refine g_putR (pc := 56) (X0 := X) (k1 := 144) (k2 := 28817) (C := zr_EL) (T := zf_EL) (N := 7) (ci := 9) (w' := ((q9, .inr (8, [.ref u10_0, .ref u10_1, .int 0])) :: ((u10_0, .inl (c.1, 100, .inl zf0)) :: ((u10_1, .inl (c.1, 100, .inl zf0)) :: ((q7, .inr (7, [.ref u8_0, .ref u8_1, .int 0, .int 0])) :: ((u8_0, .inl (c.1, 40, .inl zf0)) :: ((u8_1, .inl (c.1, 25, .inl zf0)) :: (zwKv c q5 k6 (zeV g6) g6 ++ (zwS c v4 zs0 ++ (zwS c v2 zs0 ++ ((a0, .inr (9, [.ref ((v2 12)), .ref ((v4 12)), .ref q5, .ref q7, .ref q9, .int 0, .int 0])) :: []))))))))))) rfl hR zt_EL zo_EL zn_EL hO.ok zi_EL 4 rfl zH_EL_36 rfl rfl rfl rfl rfl rfl 144 rfl rfl rfl d_EL_init_56 ?_
  refine g_aload_n (pc := 59) hO.ok d_EL_init_59 rfl 0 rfl ?_
  refine g_iconst (pc := 60) hO.ok d_EL_init_60 zc_0 ?_
  refine pf_EL_40 (pc := 61) (w2 := ((q9, .inr (8, [.ref u10_0, .ref u10_1, .int 0])) :: ((u10_0, .inl (c.1, 100, .inl zf0)) :: ((u10_1, .inl (c.1, 100, .inl zf0)) :: ((q7, .inr (7, [.ref u8_0, .ref u8_1, .int 0, .int 0])) :: ((u8_0, .inl (c.1, 40, .inl zf0)) :: ((u8_1, .inl (c.1, 25, .inl zf0)) :: (zwKv c q5 k6 (zeV g6) g6 ++ (zwS c v4 zs0 ++ (zwS c v2 zs0 ++ ((a0, .inr (9, [.ref ((v2 12)), .ref ((v4 12)), .ref q5, .ref q7, .ref q9, .int ((0 : Int32)), .int 0])) :: []))))))))))) hO.ok (Or.inl rfl) 144 rfl rfl rfl d_EL_init_61 ?_
  refine g_aload_n (pc := 64) hO.ok d_EL_init_64 rfl 0 rfl ?_
  refine g_bipush (pc := 65) hO.ok d_EL_init_65 ze_m5 ?_
  refine pf_EL_44 (pc := 67) (w2 := ((q9, .inr (8, [.ref u10_0, .ref u10_1, .int 0])) :: ((u10_0, .inl (c.1, 100, .inl zf0)) :: ((u10_1, .inl (c.1, 100, .inl zf0)) :: ((q7, .inr (7, [.ref u8_0, .ref u8_1, .int 0, .int 0])) :: ((u8_0, .inl (c.1, 40, .inl zf0)) :: ((u8_1, .inl (c.1, 25, .inl zf0)) :: (zwKv c q5 k6 (zeV g6) g6 ++ (zwS c v4 zs0 ++ (zwS c v2 zs0 ++ ((a0, .inr (9, [.ref ((v2 12)), .ref ((v4 12)), .ref q5, .ref q7, .ref q9, .int ((0 : Int32)), .int ((-5 : Int32))])) :: []))))))))))) hO.ok 144 rfl rfl rfl d_EL_init_67 ?_
  obtain ⟨q, hq⟩ : ∃ q : Nat → Nat, q = (fun i => if i < 17 then v2 i else if i < 26 then [a0, q7, u8_0, u8_1, q9, u10_0, u10_1, q5, k6].getD (i - 17) 0 else if i < 43 then v4 (i - 26) else g6 ((i - 43) / 17) ((i - 43) % 17)) := ⟨_, rfl⟩
  have he : zeV g6 = zeR q := by
    funext i
    match i with
    | 0 => rw [hq]; rfl
    | 1 => rw [hq]; rfl
    | 2 => rw [hq]; rfl
    | 3 => rw [hq]; rfl
    | 4 => rw [hq]; rfl
    | 5 => rw [hq]; rfl
    | k + 6 => simp only [zeV, zeR]; rw [if_neg (by omega), if_neg (by omega)]
  refine zperm (w' := ([(q7, .inr (7, [.ref u8_0, .ref u8_1, .int 0, .int 0])), (u8_0, .inl (c.1, 40, .inl zf0)), (u8_1, .inl (c.1, 25, .inl zf0))] ++ ((a0, .inr (9, [.ref ((v2 12)), .ref ((v4 12)), .ref q5, .ref q7, .ref q9, .int ((0 : Int32)), .int ((-5 : Int32))])) :: ([(q9, .inr (8, [.ref u10_0, .ref u10_1, .int 0])), (u10_0, .inl (c.1, 100, .inl zf0)), (u10_1, .inl (c.1, 100, .inl zf0))] ++ (zwS c v2 zs0 ++ ((zwKv c q5 k6 (zeV g6) g6) ++ zwS c v4 zs0)))))) ?_ ?_
  · refine zpc (fun _ _ a => ?_)
    simp only [List.count_append, List.count_cons, List.count_nil]
    omega
  rw [he]
  have hT : ([(q7, .inr (7, [.ref u8_0, .ref u8_1, .int 0, .int 0])), (u8_0, .inl (c.1, 40, .inl zf0)), (u8_1, .inl (c.1, 25, .inl zf0))] ++ ((a0, .inr (9, [.ref ((v2 12)), .ref ((v4 12)), .ref q5, .ref q7, .ref q9, .int ((0 : Int32)), .int ((-5 : Int32))])) :: ([(q9, .inr (8, [.ref u10_0, .ref u10_1, .int 0])), (u10_0, .inl (c.1, 100, .inl zf0)), (u10_1, .inl (c.1, 100, .inl zf0))] ++ (zwS c v2 zs0 ++ ((zwKv c q5 k6 (zeR q) g6) ++ zwS c v4 zs0))))) = zwX c q zx0 := by
    have e1 : (v2 12) = q 12 := by rw [hq]; rfl
    have e2 : (v4 12) = q 38 := by rw [hq]; rfl
    rw [e1, e2, hq]
    rfl
  rw [hT]
  exact g_cret (X0 := X) rfl hR hO.ok ⟨q, by rw [hq]; rfl, rfl⟩ d_EL_init_70)
theorem d_Mo_init_0 : decode zb_Mo_init 0 = .ok (.aload_n 0, 1) := by decide +kernel
theorem d_Mo_init_1 : decode zb_Mo_init 1 = .ok (.invokespecial 1, 3) := by decide +kernel
theorem d_Mo_init_4 : decode zb_Mo_init 4 = .ok (.aload_n 0, 1) := by decide +kernel
theorem d_Mo_init_5 : decode zb_Mo_init 5 = .ok (.bipush 100, 2) := by decide +kernel
theorem d_Mo_init_7 : decode zb_Mo_init 7 = .ok (.newarray .int, 2) := by decide +kernel
theorem d_Mo_init_9 : decode zb_Mo_init 9 = .ok (.putfield 7, 3) := by decide +kernel
theorem d_Mo_init_12 : decode zb_Mo_init 12 = .ok (.aload_n 0, 1) := by decide +kernel
theorem d_Mo_init_13 : decode zb_Mo_init 13 = .ok (.bipush 8, 2) := by decide +kernel
theorem d_Mo_init_15 : decode zb_Mo_init 15 = .ok (.newarray .int, 2) := by decide +kernel
theorem d_Mo_init_17 : decode zb_Mo_init 17 = .ok (.putfield 13, 3) := by decide +kernel
theorem d_Mo_init_20 : decode zb_Mo_init 20 = .ok (.aload_n 0, 1) := by decide +kernel
theorem d_Mo_init_21 : decode zb_Mo_init 21 = .ok (.bipush 8, 2) := by decide +kernel
theorem d_Mo_init_23 : decode zb_Mo_init 23 = .ok (.newarray .int, 2) := by decide +kernel
theorem d_Mo_init_25 : decode zb_Mo_init 25 = .ok (.putfield 16, 3) := by decide +kernel
theorem d_Mo_init_28 : decode zb_Mo_init 28 = .ok (.aload_n 0, 1) := by decide +kernel
theorem d_Mo_init_29 : decode zb_Mo_init 29 = .ok (.bipush 8, 2) := by decide +kernel
theorem d_Mo_init_31 : decode zb_Mo_init 31 = .ok (.newarray .int, 2) := by decide +kernel
theorem d_Mo_init_33 : decode zb_Mo_init 33 = .ok (.putfield 19, 3) := by decide +kernel
theorem d_Mo_init_36 : decode zb_Mo_init 36 = .ok (.aload_n 0, 1) := by decide +kernel
theorem d_Mo_init_37 : decode zb_Mo_init 37 = .ok (.bipush 8, 2) := by decide +kernel
theorem d_Mo_init_39 : decode zb_Mo_init 39 = .ok (.newarray .int, 2) := by decide +kernel
theorem d_Mo_init_41 : decode zb_Mo_init 41 = .ok (.putfield 22, 3) := by decide +kernel
theorem d_Mo_init_44 : decode zb_Mo_init 44 = .ok (.aload_n 0, 1) := by decide +kernel
theorem d_Mo_init_45 : decode zb_Mo_init 45 = .ok (.bipush 8, 2) := by decide +kernel
theorem d_Mo_init_47 : decode zb_Mo_init 47 = .ok (.newarray .int, 2) := by decide +kernel
theorem d_Mo_init_49 : decode zb_Mo_init 49 = .ok (.putfield 25, 3) := by decide +kernel
theorem d_Mo_init_52 : decode zb_Mo_init 52 = .ok (.aload_n 0, 1) := by decide +kernel
theorem d_Mo_init_53 : decode zb_Mo_init 53 = .ok (.bipush 8, 2) := by decide +kernel
theorem d_Mo_init_55 : decode zb_Mo_init 55 = .ok (.newarray .int, 2) := by decide +kernel
theorem d_Mo_init_57 : decode zb_Mo_init 57 = .ok (.putfield 28, 3) := by decide +kernel
theorem d_Mo_init_60 : decode zb_Mo_init 60 = .ok (.aload_n 0, 1) := by decide +kernel
theorem d_Mo_init_61 : decode zb_Mo_init 61 = .ok (.bipush 8, 2) := by decide +kernel
theorem d_Mo_init_63 : decode zb_Mo_init 63 = .ok (.newarray .int, 2) := by decide +kernel
theorem d_Mo_init_65 : decode zb_Mo_init 65 = .ok (.putfield 31, 3) := by decide +kernel
theorem d_Mo_init_68 : decode zb_Mo_init 68 = .ok (.aload_n 0, 1) := by decide +kernel
theorem d_Mo_init_69 : decode zb_Mo_init 69 = .ok (.bipush 24, 2) := by decide +kernel
theorem d_Mo_init_71 : decode zb_Mo_init 71 = .ok (.newarray .int, 2) := by decide +kernel
theorem d_Mo_init_73 : decode zb_Mo_init 73 = .ok (.putfield 34, 3) := by decide +kernel
theorem d_Mo_init_76 : decode zb_Mo_init 76 = .ok (.aload_n 0, 1) := by decide +kernel
theorem d_Mo_init_77 : decode zb_Mo_init 77 = .ok (.bipush 24, 2) := by decide +kernel
theorem d_Mo_init_79 : decode zb_Mo_init 79 = .ok (.newarray .int, 2) := by decide +kernel
theorem d_Mo_init_81 : decode zb_Mo_init 81 = .ok (.putfield 37, 3) := by decide +kernel
theorem d_Mo_init_84 : decode zb_Mo_init 84 = .ok (.aload_n 0, 1) := by decide +kernel
theorem d_Mo_init_85 : decode zb_Mo_init 85 = .ok (.bipush 8, 2) := by decide +kernel
theorem d_Mo_init_87 : decode zb_Mo_init 87 = .ok (.newarray .int, 2) := by decide +kernel
theorem d_Mo_init_89 : decode zb_Mo_init 89 = .ok (.putfield 40, 3) := by decide +kernel
theorem d_Mo_init_92 : decode zb_Mo_init 92 = .ok (.aload_n 0, 1) := by decide +kernel
theorem d_Mo_init_93 : decode zb_Mo_init 93 = .ok (.bipush (-5), 2) := by decide +kernel
theorem d_Mo_init_95 : decode zb_Mo_init 95 = .ok (.putfield 43, 3) := by decide +kernel
theorem d_Mo_init_98 : decode zb_Mo_init 98 = .ok (.aload_n 0, 1) := by decide +kernel
theorem d_Mo_init_99 : decode zb_Mo_init 99 = .ok (.sipush 300, 3) := by decide +kernel
theorem d_Mo_init_102 : decode zb_Mo_init 102 = .ok (.newarray .int, 2) := by decide +kernel
theorem d_Mo_init_104 : decode zb_Mo_init 104 = .ok (.putfield 47, 3) := by decide +kernel
theorem d_Mo_init_107 : decode zb_Mo_init 107 = .ok (.aload_n 0, 1) := by decide +kernel
theorem d_Mo_init_108 : decode zb_Mo_init 108 = .ok (.sipush 384, 3) := by decide +kernel
theorem d_Mo_init_111 : decode zb_Mo_init 111 = .ok (.newarray .int, 2) := by decide +kernel
theorem d_Mo_init_113 : decode zb_Mo_init 113 = .ok (.putfield 50, 3) := by decide +kernel
theorem d_Mo_init_116 : decode zb_Mo_init 116 = .ok (.aload_n 0, 1) := by decide +kernel
theorem d_Mo_init_117 : decode zb_Mo_init 117 = .ok (.bipush 8, 2) := by decide +kernel
theorem d_Mo_init_119 : decode zb_Mo_init 119 = .ok (.newarray .int, 2) := by decide +kernel
theorem d_Mo_init_121 : decode zb_Mo_init 121 = .ok (.putfield 53, 3) := by decide +kernel
theorem d_Mo_init_124 : decode zb_Mo_init 124 = .ok (.aload_n 0, 1) := by decide +kernel
theorem d_Mo_init_125 : decode zb_Mo_init 125 = .ok (.bipush 100, 2) := by decide +kernel
theorem d_Mo_init_127 : decode zb_Mo_init 127 = .ok (.newarray .int, 2) := by decide +kernel
theorem d_Mo_init_129 : decode zb_Mo_init 129 = .ok (.putfield 56, 3) := by decide +kernel
theorem d_Mo_init_132 : decode zb_Mo_init 132 = .ok (.aload_n 0, 1) := by decide +kernel
theorem d_Mo_init_133 : decode zb_Mo_init 133 = .ok (.bipush 100, 2) := by decide +kernel
theorem d_Mo_init_135 : decode zb_Mo_init 135 = .ok (.newarray .int, 2) := by decide +kernel
theorem d_Mo_init_137 : decode zb_Mo_init 137 = .ok (.putfield 59, 3) := by decide +kernel
theorem d_Mo_init_140 : decode zb_Mo_init 140 = .ok (.aload_n 0, 1) := by decide +kernel
theorem d_Mo_init_141 : decode zb_Mo_init 141 = .ok (.bipush 100, 2) := by decide +kernel
theorem d_Mo_init_143 : decode zb_Mo_init 143 = .ok (.newarray .int, 2) := by decide +kernel
theorem d_Mo_init_145 : decode zb_Mo_init 145 = .ok (.putfield 62, 3) := by decide +kernel
theorem d_Mo_init_148 : decode zb_Mo_init 148 = .ok (.aload_n 0, 1) := by decide +kernel
theorem d_Mo_init_149 : decode zb_Mo_init 149 = .ok (.bipush 40, 2) := by decide +kernel
theorem d_Mo_init_151 : decode zb_Mo_init 151 = .ok (.newarray .int, 2) := by decide +kernel
theorem d_Mo_init_153 : decode zb_Mo_init 153 = .ok (.putfield 65, 3) := by decide +kernel
theorem d_Mo_init_156 : decode zb_Mo_init 156 = .ok (.aload_n 0, 1) := by decide +kernel
theorem d_Mo_init_157 : decode zb_Mo_init 157 = .ok (.bipush 25, 2) := by decide +kernel
theorem d_Mo_init_159 : decode zb_Mo_init 159 = .ok (.newarray .int, 2) := by decide +kernel
theorem d_Mo_init_161 : decode zb_Mo_init 161 = .ok (.putfield 68, 3) := by decide +kernel
theorem d_Mo_init_164 : decode zb_Mo_init 164 = .ok (.aload_n 0, 1) := by decide +kernel
theorem d_Mo_init_165 : decode zb_Mo_init 165 = .ok (.bipush 100, 2) := by decide +kernel
theorem d_Mo_init_167 : decode zb_Mo_init 167 = .ok (.newarray .boolean, 2) := by decide +kernel
theorem d_Mo_init_169 : decode zb_Mo_init 169 = .ok (.putfield 71, 3) := by decide +kernel
theorem d_Mo_init_172 : decode zb_Mo_init 172 = .ok (.aload_n 0, 1) := by decide +kernel
theorem d_Mo_init_173 : decode zb_Mo_init 173 = .ok (.sipush 6078, 3) := by decide +kernel
theorem d_Mo_init_176 : decode zb_Mo_init 176 = .ok (.newarray .int, 2) := by decide +kernel
theorem d_Mo_init_178 : decode zb_Mo_init 178 = .ok (.putfield 75, 3) := by decide +kernel
theorem d_Mo_init_181 : decode zb_Mo_init 181 = .ok (.aload_n 0, 1) := by decide +kernel
theorem d_Mo_init_182 : decode zb_Mo_init 182 = .ok (.sipush 1013, 3) := by decide +kernel
theorem d_Mo_init_185 : decode zb_Mo_init 185 = .ok (.newarray .int, 2) := by decide +kernel
theorem d_Mo_init_187 : decode zb_Mo_init 187 = .ok (.putfield 78, 3) := by decide +kernel
theorem d_Mo_init_190 : decode zb_Mo_init 190 = .ok (.return_, 1) := by decide +kernel
set_option maxRecDepth 20000 in
theorem c_Mo_init (c : zY) (a0 : Nat) : KC zy_Mo_init zb_Mo_init 1 1 22 8460 c [.ref a0] ((a0, .inr (10, [.null, .null, .null, .null, .null, .null, .null, .null, .null, .null, .null, .int 0, .int 0, .null, .int 0, .null, .int 0, .int 0, .int 0, .int 0, .int 0, .int 0, .int 0, .int 0, .int 0, .int 0, .int 0, .int 0, .int 0, .int 0, .null, .null, .null, .null, .null, .null, .int 0, .int 0, .int 0, .null, .null, .null, .int 0, .int 0, .int 0, .int 0])) :: []) (fun w2 => ∃ q : Nat → Nat, q 0 = a0 ∧ w2 = zwM c q zm0) := zC_of zp_Mo rfl rfl (Nat.le_of_ble_eq_true rfl) (fun X sz hX hR hV => by
  show Go X ((a0, .inr (10, [.null, .null, .null, .null, .null, .null, .null, .null, .null, .null, .null, .int 0, .int 0, .null, .int 0, .null, .int 0, .int 0, .int 0, .int 0, .int 0, .int 0, .int 0, .int 0, .int 0, .int 0, .int 0, .int 0, .int 0, .int 0, .null, .null, .null, .null, .null, .null, .int 0, .int 0, .int 0, .null, .null, .null, .int 0, .int 0, .int 0, .int 0])) :: []) [(0, .ref a0)] 0 []
  refine zUp_0 ?_
  have hO := hX.up0
  refine g_aload_n (pc := 0) hO.ok d_Mo_init_0 rfl 0 rfl ?_
  refine g_obj (pc := 1) hO.ok zL_Mo_1 rfl rfl d_Mo_init_1 ?_
  refine g_aload_n (pc := 4) hO.ok d_Mo_init_4 rfl 0 rfl ?_
  refine g_bipush (pc := 5) hO.ok d_Mo_init_5 ze_100 ?_
  refine g_newIF (pc := 7) hO 100 (by decide) (by decide) rfl rfl rfl d_Mo_init_7 1 100 rfl rfl (fun q1 => ?_)
  have hO := hX.up 1 100 rfl rfl
  show Go (zUp X 1 100) ((q1, .inl (c.1, 100, .inl zf0)) :: ((a0, .inr (10, [.null, .null, .null, .null, .null, .null, .null, .null, .null, .null, .null, .int 0, .int 0, .null, .int 0, .null, .int 0, .int 0, .int 0, .int 0, .int 0, .int 0, .int 0, .int 0, .int 0, .int 0, .int 0, .int 0, .int 0, .int 0, .null, .null, .null, .null, .null, .null, .int 0, .int 0, .int 0, .null, .null, .null, .int 0, .int 0, .int 0, .int 0])) :: [])) [(0, .ref a0)] 9 [.ref q1, .ref a0]
  refine g_putR (pc := 9) (X0 := X) (k1 := 1) (k2 := 100) (C := zr_Mo) (T := zf_Mo) (N := 46) (ci := 10) (w' := ((q1, .inl (c.1, 100, .inl zf0)) :: ((a0, .inr (10, [.ref q1, .null, .null, .null, .null, .null, .null, .null, .null, .null, .null, .int 0, .int 0, .null, .int 0, .null, .int 0, .int 0, .int 0, .int 0, .int 0, .int 0, .int 0, .int 0, .int 0, .int 0, .int 0, .int 0, .int 0, .int 0, .null, .null, .null, .null, .null, .null, .int 0, .int 0, .int 0, .null, .null, .null, .int 0, .int 0, .int 0, .int 0])) :: []))) rfl hR zt_Mo zo_Mo zn_Mo hO.ok zi_Mo 0 rfl zH_Mo_7 rfl rfl rfl rfl rfl rfl 1 rfl rfl rfl d_Mo_init_9 ?_
  refine g_aload_n (pc := 12) hO.ok d_Mo_init_12 rfl 0 rfl ?_
  refine g_bipush (pc := 13) hO.ok d_Mo_init_13 ze_8 ?_
  refine g_newIF (pc := 15) hO 8 (by decide) (by decide) rfl rfl rfl d_Mo_init_15 2 108 rfl rfl (fun q2 => ?_)
  have hO := hX.up 2 108 rfl rfl
  show Go (zUp X 2 108) ((q2, .inl (c.1, 8, .inl zf0)) :: ((q1, .inl (c.1, 100, .inl zf0)) :: ((a0, .inr (10, [.ref q1, .null, .null, .null, .null, .null, .null, .null, .null, .null, .null, .int 0, .int 0, .null, .int 0, .null, .int 0, .int 0, .int 0, .int 0, .int 0, .int 0, .int 0, .int 0, .int 0, .int 0, .int 0, .int 0, .int 0, .int 0, .null, .null, .null, .null, .null, .null, .int 0, .int 0, .int 0, .null, .null, .null, .int 0, .int 0, .int 0, .int 0])) :: []))) [(0, .ref a0)] 17 [.ref q2, .ref a0]
  refine g_putR (pc := 17) (X0 := X) (k1 := 2) (k2 := 108) (C := zr_Mo) (T := zf_Mo) (N := 46) (ci := 10) (w' := ((q2, .inl (c.1, 8, .inl zf0)) :: ((q1, .inl (c.1, 100, .inl zf0)) :: ((a0, .inr (10, [.ref q1, .ref q2, .null, .null, .null, .null, .null, .null, .null, .null, .null, .int 0, .int 0, .null, .int 0, .null, .int 0, .int 0, .int 0, .int 0, .int 0, .int 0, .int 0, .int 0, .int 0, .int 0, .int 0, .int 0, .int 0, .int 0, .null, .null, .null, .null, .null, .null, .int 0, .int 0, .int 0, .null, .null, .null, .int 0, .int 0, .int 0, .int 0])) :: [])))) rfl hR zt_Mo zo_Mo zn_Mo hO.ok zi_Mo 1 rfl zH_Mo_13 rfl rfl rfl rfl rfl rfl 2 rfl rfl rfl d_Mo_init_17 ?_
  refine g_aload_n (pc := 20) hO.ok d_Mo_init_20 rfl 0 rfl ?_
  refine g_bipush (pc := 21) hO.ok d_Mo_init_21 ze_8 ?_
  refine g_newIF (pc := 23) hO 8 (by decide) (by decide) rfl rfl rfl d_Mo_init_23 3 116 rfl rfl (fun q3 => ?_)
  have hO := hX.up 3 116 rfl rfl
  show Go (zUp X 3 116) ((q3, .inl (c.1, 8, .inl zf0)) :: ((q2, .inl (c.1, 8, .inl zf0)) :: ((q1, .inl (c.1, 100, .inl zf0)) :: ((a0, .inr (10, [.ref q1, .ref q2, .null, .null, .null, .null, .null, .null, .null, .null, .null, .int 0, .int 0, .null, .int 0, .null, .int 0, .int 0, .int 0, .int 0, .int 0, .int 0, .int 0, .int 0, .int 0, .int 0, .int 0, .int 0, .int 0, .int 0, .null, .null, .null, .null, .null, .null, .int 0, .int 0, .int 0, .null, .null, .null, .int 0, .int 0, .int 0, .int 0])) :: [])))) [(0, .ref a0)] 25 [.ref q3, .ref a0]
  refine g_putR (pc := 25) (X0 := X) (k1 := 3) (k2 := 116) (C := zr_Mo) (T := zf_Mo) (N := 46) (ci := 10) (w' := ((q3, .inl (c.1, 8, .inl zf0)) :: ((q2, .inl (c.1, 8, .inl zf0)) :: ((q1, .inl (c.1, 100, .inl zf0)) :: ((a0, .inr (10, [.ref q1, .ref q2, .ref q3, .null, .null, .null, .null, .null, .null, .null, .null, .int 0, .int 0, .null, .int 0, .null, .int 0, .int 0, .int 0, .int 0, .int 0, .int 0, .int 0, .int 0, .int 0, .int 0, .int 0, .int 0, .int 0, .int 0, .null, .null, .null, .null, .null, .null, .int 0, .int 0, .int 0, .null, .null, .null, .int 0, .int 0, .int 0, .int 0])) :: []))))) rfl hR zt_Mo zo_Mo zn_Mo hO.ok zi_Mo 2 rfl zH_Mo_16 rfl rfl rfl rfl rfl rfl 3 rfl rfl rfl d_Mo_init_25 ?_
  refine g_aload_n (pc := 28) hO.ok d_Mo_init_28 rfl 0 rfl ?_
  refine g_bipush (pc := 29) hO.ok d_Mo_init_29 ze_8 ?_
  refine g_newIF (pc := 31) hO 8 (by decide) (by decide) rfl rfl rfl d_Mo_init_31 4 124 rfl rfl (fun q4 => ?_)
  have hO := hX.up 4 124 rfl rfl
  show Go (zUp X 4 124) ((q4, .inl (c.1, 8, .inl zf0)) :: ((q3, .inl (c.1, 8, .inl zf0)) :: ((q2, .inl (c.1, 8, .inl zf0)) :: ((q1, .inl (c.1, 100, .inl zf0)) :: ((a0, .inr (10, [.ref q1, .ref q2, .ref q3, .null, .null, .null, .null, .null, .null, .null, .null, .int 0, .int 0, .null, .int 0, .null, .int 0, .int 0, .int 0, .int 0, .int 0, .int 0, .int 0, .int 0, .int 0, .int 0, .int 0, .int 0, .int 0, .int 0, .null, .null, .null, .null, .null, .null, .int 0, .int 0, .int 0, .null, .null, .null, .int 0, .int 0, .int 0, .int 0])) :: []))))) [(0, .ref a0)] 33 [.ref q4, .ref a0]
  refine g_putR (pc := 33) (X0 := X) (k1 := 4) (k2 := 124) (C := zr_Mo) (T := zf_Mo) (N := 46) (ci := 10) (w' := ((q4, .inl (c.1, 8, .inl zf0)) :: ((q3, .inl (c.1, 8, .inl zf0)) :: ((q2, .inl (c.1, 8, .inl zf0)) :: ((q1, .inl (c.1, 100, .inl zf0)) :: ((a0, .inr (10, [.ref q1, .ref q2, .ref q3, .ref q4, .null, .null, .null, .null, .null, .null, .null, .int 0, .int 0, .null, .int 0, .null, .int 0, .int 0, .int 0, .int 0, .int 0, .int 0, .int 0, .int 0, .int 0, .int 0, .int 0, .int 0, .int 0, .int 0, .null, .null, .null, .null, .null, .null, .int 0, .int 0, .int 0, .null, .null, .null, .int 0, .int 0, .int 0, .int 0])) :: [])))))) rfl hR zt_Mo zo_Mo zn_Mo hO.ok zi_Mo 3 rfl zH_Mo_19 rfl rfl rfl rfl rfl rfl 4 rfl rfl rfl d_Mo_init_33 ?_
  refine g_aload_n (pc := 36) hO.ok d_Mo_init_36 rfl 0 rfl ?_
  refine g_bipush (pc := 37) hO.ok d_Mo_init_37 ze_8 ?_
  refine g_newIF (pc := 39) hO 8 (by decide) (by decide) rfl rfl rfl d_Mo_init_39 5 132 rfl rfl (fun q5 => ?_)
  have hO := hX.up 5 132 rfl rfl
  show Go (zUp X 5 132) ((q5, .inl (c.1, 8, .inl zf0)) :: ((q4, .inl (c.1, 8, .inl zf0)) :: ((q3, .inl (c.1, 8, .inl zf0)) :: ((q2, .inl (c.1, 8, .inl zf0)) :: ((q1, .inl (c.1, 100, .inl zf0)) :: ((a0, .inr (10, [.ref q1, .ref q2, .ref q3, .ref q4, .null, .null, .null, .null, .null, .null, .null, .int 0, .int 0, .null, .int 0, .null, .int 0, .int 0, .int 0, .int 0, .int 0, .int 0, .int 0, .int 0, .int 0, .int 0, .int 0, .int 0, .int 0, .int 0, .null, .null, .null, .null, .null, .null, .int 0, .int 0, .int 0, .null, .null, .null, .int 0, .int 0, .int 0, .int 0])) :: [])))))) [(0, .ref a0)] 41 [.ref q5, .ref a0]
  refine g_putR (pc := 41) (X0 := X) (k1 := 5) (k2 := 132) (C := zr_Mo) (T := zf_Mo) (N := 46) (ci := 10) (w' := ((q5, .inl (c.1, 8, .inl zf0)) :: ((q4, .inl (c.1, 8, .inl zf0)) :: ((q3, .inl (c.1, 8, .inl zf0)) :: ((q2, .inl (c.1, 8, .inl zf0)) :: ((q1, .inl (c.1, 100, .inl zf0)) :: ((a0, .inr (10, [.ref q1, .ref q2, .ref q3, .ref q4, .ref q5, .null, .null, .null, .null, .null, .null, .int 0, .int 0, .null, .int 0, .null, .int 0, .int 0, .int 0, .int 0, .int 0, .int 0, .int 0, .int 0, .int 0, .int 0, .int 0, .int 0, .int 0, .int 0, .null, .null, .null, .null, .null, .null, .int 0, .int 0, .int 0, .null, .null, .null, .int 0, .int 0, .int 0, .int 0])) :: []))))))) rfl hR zt_Mo zo_Mo zn_Mo hO.ok zi_Mo 4 rfl zH_Mo_22 rfl rfl rfl rfl rfl rfl 5 rfl rfl rfl d_Mo_init_41 ?_
  refine g_aload_n (pc := 44) hO.ok d_Mo_init_44 rfl 0 rfl ?_
  refine g_bipush (pc := 45) hO.ok d_Mo_init_45 ze_8 ?_
  refine g_newIF (pc := 47) hO 8 (by decide) (by decide) rfl rfl rfl d_Mo_init_47 6 140 rfl rfl (fun q6 => ?_)
  have hO := hX.up 6 140 rfl rfl
  show Go (zUp X 6 140) ((q6, .inl (c.1, 8, .inl zf0)) :: ((q5, .inl (c.1, 8, .inl zf0)) :: ((q4, .inl (c.1, 8, .inl zf0)) :: ((q3, .inl (c.1, 8, .inl zf0)) :: ((q2, .inl (c.1, 8, .inl zf0)) :: ((q1, .inl (c.1, 100, .inl zf0)) :: ((a0, .inr (10, [.ref q1, .ref q2, .ref q3, .ref q4, .ref q5, .null, .null, .null, .null, .null, .null, .int 0, .int 0, .null, .int 0, .null, .int 0, .int 0, .int 0, .int 0, .int 0, .int 0, .int 0, .int 0, .int 0, .int 0, .int 0, .int 0, .int 0, .int 0, .null, .null, .null, .null, .null, .null, .int 0, .int 0, .int 0, .null, .null, .null, .int 0, .int 0, .int 0, .int 0])) :: []))))))) [(0, .ref a0)] 49 [.ref q6, .ref a0]
  refine g_putR (pc := 49) (X0 := X) (k1 := 6) (k2 := 140) (C := zr_Mo) (T := zf_Mo) (N := 46) (ci := 10) (w' := ((q6, .inl (c.1, 8, .inl zf0)) :: ((q5, .inl (c.1, 8, .inl zf0)) :: ((q4, .inl (c.1, 8, .inl zf0)) :: ((q3, .inl (c.1, 8, .inl zf0)) :: ((q2, .inl (c.1, 8, .inl zf0)) :: ((q1, .inl (c.1, 100, .inl zf0)) :: ((a0, .inr (10, [.ref q1, .ref q2, .ref q3, .ref q4, .ref q5, .ref q6, .null, .null, .null, .null, .null, .int 0, .int 0, .null, .int 0, .null, .int 0, .int 0, .int 0, .int 0, .int 0, .int 0, .int 0, .int 0, .int 0, .int 0, .int 0, .int 0, .int 0, .int 0, .null, .null, .null, .null, .null, .null, .int 0, .int 0, .int 0, .null, .null, .null, .int 0, .int 0, .int 0, .int 0])) :: [])))))))) rfl hR zt_Mo zo_Mo zn_Mo hO.ok zi_Mo 5 rfl zH_Mo_25 rfl rfl rfl rfl rfl rfl 6 rfl rfl rfl d_Mo_init_49 ?_
  refine g_aload_n (pc := 52) hO.ok d_Mo_init_52 rfl 0 rfl ?_
  refine g_bipush (pc := 53) hO.ok d_Mo_init_53 ze_8 ?_
  refine g_newIF (pc := 55) hO 8 (by decide) (by decide) rfl rfl rfl d_Mo_init_55 7 148 rfl rfl (fun q7 => ?_)
  have hO := hX.up 7 148 rfl rfl
  show Go (zUp X 7 148) ((q7, .inl (c.1, 8, .inl zf0)) :: ((q6, .inl (c.1, 8, .inl zf0)) :: ((q5, .inl (c.1, 8, .inl zf0)) :: ((q4, .inl (c.1, 8, .inl zf0)) :: ((q3, .inl (c.1, 8, .inl zf0)) :: ((q2, .inl (c.1, 8, .inl zf0)) :: ((q1, .inl (c.1, 100, .inl zf0)) :: ((a0, .inr (10, [.ref q1, .ref q2, .ref q3, .ref q4, .ref q5, .ref q6, .null, .null, .null, .null, .null, .int 0, .int 0, .null, .int 0, .null, .int 0, .int 0, .int 0, .int 0, .int 0, .int 0, .int 0, .int 0, .int 0, .int 0, .int 0, .int 0, .int 0, .int 0, .null, .null, .null, .null, .null, .null, .int 0, .int 0, .int 0, .null, .null, .null, .int 0, .int 0, .int 0, .int 0])) :: [])))))))) [(0, .ref a0)] 57 [.ref q7, .ref a0]
  refine g_putR (pc := 57) (X0 := X) (k1 := 7) (k2 := 148) (C := zr_Mo) (T := zf_Mo) (N := 46) (ci := 10) (w' := ((q7, .inl (c.1, 8, .inl zf0)) :: ((q6, .inl (c.1, 8, .inl zf0)) :: ((q5, .inl (c.1, 8, .inl zf0)) :: ((q4, .inl (c.1, 8, .inl zf0)) :: ((q3, .inl (c.1, 8, .inl zf0)) :: ((q2, .inl (c.1, 8, .inl zf0)) :: ((q1, .inl (c.1, 100, .inl zf0)) :: ((a0, .inr (10, [.ref q1, .ref q2, .ref q3, .ref q4, .ref q5, .ref q6, .ref q7, .null, .null, .null, .null, .int 0, .int 0, .null, .int 0, .null, .int 0, .int 0, .int 0, .int 0, .int 0, .int 0, .int 0, .int 0, .int 0, .int 0, .int 0, .int 0, .int 0, .int 0, .null, .null, .null, .null, .null, .null, .int 0, .int 0, .int 0, .null, .null, .null, .int 0, .int 0, .int 0, .int 0])) :: []))))))))) rfl hR zt_Mo zo_Mo zn_Mo hO.ok zi_Mo 6 rfl zH_Mo_28 rfl rfl rfl rfl rfl rfl 7 rfl rfl rfl d_Mo_init_57 ?_
  refine g_aload_n (pc := 60) hO.ok d_Mo_init_60 rfl 0 rfl ?_
  refine g_bipush (pc := 61) hO.ok d_Mo_init_61 ze_8 ?_
  refine g_newIF (pc := 63) hO 8 (by decide) (by decide) rfl rfl rfl d_Mo_init_63 8 156 rfl rfl (fun q8 => ?_)
  have hO := hX.up 8 156 rfl rfl
  show Go (zUp X 8 156) ((q8, .inl (c.1, 8, .inl zf0)) :: ((q7, .inl (c.1, 8, .inl zf0)) :: ((q6, .inl (c.1, 8, .inl zf0)) :: ((q5, .inl (c.1, 8, .inl zf0)) :: ((q4, .inl (c.1, 8, .inl zf0)) :: ((q3, .inl (c.1, 8, .inl zf0)) :: ((q2, .inl (c.1, 8, .inl zf0)) :: ((q1, .inl (c.1, 100, .inl zf0)) :: ((a0, .inr (10, [.ref q1, .ref q2, .ref q3, .ref q4, .ref q5, .ref q6, .ref q7, .null, .null, .null, .null, .int 0, .int 0, .null, .int 0, .null, .int 0, .int 0, .int 0, .int 0, .int 0, .int 0, .int 0, .int 0, .int 0, .int 0, .int 0, .int 0, .int 0, .int 0, .null, .null, .null, .null, .null, .null, .int 0, .int 0, .int 0, .null, .null, .null, .int 0, .int 0, .int 0, .int 0])) :: []))))))))) [(0, .ref a0)] 65 [.ref q8, .ref a0]
  refine g_putR (pc := 65) (X0 := X) (k1 := 8) (k2 := 156) (C := zr_Mo) (T := zf_Mo) (N := 46) (ci := 10) (w' := ((q8, .inl (c.1, 8, .inl zf0)) :: ((q7, .inl (c.1, 8, .inl zf0)) :: ((q6, .inl (c.1, 8, .inl zf0)) :: ((q5, .inl (c.1, 8, .inl zf0)) :: ((q4, .inl (c.1, 8, .inl zf0)) :: ((q3, .inl (c.1, 8, .inl zf0)) :: ((q2, .inl (c.1, 8, .inl zf0)) :: ((q1, .inl (c.1, 100, .inl zf0)) :: ((a0, .inr (10, [.ref q1, .ref q2, .ref q3, .ref q4, .ref q5, .ref q6, .ref q7, .ref q8, .null, .null, .null, .int 0, .int 0, .null, .int 0, .null, .int 0, .int 0, .int 0, .int 0, .int 0, .int 0, .int 0, .int 0, .int 0, .int 0, .int 0, .int 0, .int 0, .int 0, .null, .null, .null, .null, .null, .null, .int 0, .int 0, .int 0, .null, .null, .null, .int 0, .int 0, .int 0, .int 0])) :: [])))))))))) rfl hR zt_Mo zo_Mo zn_Mo hO.ok zi_Mo 7 rfl zH_Mo_31 rfl rfl rfl rfl rfl rfl 8 rfl rfl rfl d_Mo_init_65 ?_
  refine g_aload_n (pc := 68) hO.ok d_Mo_init_68 rfl 0 rfl ?_
  refine g_bipush (pc := 69) hO.ok d_Mo_init_69 ze_24 ?_
  refine g_newIF (pc := 71) hO 24 (by decide) (by decide) rfl rfl rfl d_Mo_init_71 9 180 rfl rfl (fun q9 => ?_)
  have hO := hX.up 9 180 rfl rfl
  show Go (zUp X 9 180) ((q9, .inl (c.1, 24, .inl zf0)) :: ((q8, .inl (c.1, 8, .inl zf0)) :: ((q7, .inl (c.1, 8, .inl zf0)) :: ((q6, .inl (c.1, 8, .inl zf0)) :: ((q5, .inl (c.1, 8, .inl zf0)) :: ((q4, .inl (c.1, 8, .inl zf0)) :: ((q3, .inl (c.1, 8, .inl zf0)) :: ((q2, .inl (c.1, 8, .inl zf0)) :: ((q1, .inl (c.1, 100, .inl zf0)) :: ((a0, .inr (10, [.ref q1, .ref q2, .ref q3, .ref q4, .ref q5, .ref q6, .ref q7, .ref q8, .null, .null, .null, .int 0, .int 0, .null, .int 0, .null, .int 0, .int 0, .int 0, .int 0, .int 0, .int 0, .int 0, .int 0, .int 0, .int 0, .int 0, .int 0, .int 0, .int 0, .null, .null, .null, .null, .null, .null, .int 0, .int 0, .int 0, .null, .null, .null, .int 0, .int 0, .int 0, .int 0])) :: [])))))))))) [(0, .ref a0)] 73 [.ref q9, .ref a0]
  refine g_putR (pc := 73) (X0 := X) (k1 := 9) (k2 := 180) (C := zr_Mo) (T := zf_Mo) (N := 46) (ci := 10) (w' := ((q9, .inl (c.1, 24, .inl zf0)) :: ((q8, .inl (c.1, 8, .inl zf0)) :: ((q7, .inl (c.1, 8, .inl zf0)) :: ((q6, .inl (c.1, 8, .inl zf0)) :: ((q5, .inl (c.1, 8, .inl zf0)) :: ((q4, .inl (c.1, 8, .inl zf0)) :: ((q3, .inl (c.1, 8, .inl zf0)) :: ((q2, .inl (c.1, 8, .inl zf0)) :: ((q1, .inl (c.1, 100, .inl zf0)) :: ((a0, .inr (10, [.ref q1, .ref q2, .ref q3, .ref q4, .ref q5, .ref q6, .ref q7, .ref q8, .ref q9, .null, .null, .int 0, .int 0, .null, .int 0, .null, .int 0, .int 0, .int 0, .int 0, .int 0, .int 0, .int 0, .int 0, .int 0, .int 0, .int 0, .int 0, .int 0, .int 0, .null, .null, .null, .null, .null, .null, .int 0, .int 0, .int 0, .null, .null, .null, .int 0, .int 0, .int 0, .int 0])) :: []))))))))))) rfl hR zt_Mo zo_Mo zn_Mo hO.ok zi_Mo 8 rfl zH_Mo_34 rfl rfl rfl rfl rfl rfl 9 rfl rfl rfl d_Mo_init_73 ?_
  refine g_aload_n (pc := 76) hO.ok d_Mo_init_76 rfl 0 rfl ?_
  refine g_bipush (pc := 77) hO.ok d_Mo_init_77 ze_24 ?_
  refine g_newIF (pc := 79) hO 24 (by decide) (by decide) rfl rfl rfl d_Mo_init_79 10 204 rfl rfl (fun q10 => ?_)
  have hO := hX.up 10 204 rfl rfl
  show Go (zUp X 10 204) ((q10, .inl (c.1, 24, .inl zf0)) :: ((q9, .inl (c.1, 24, .inl zf0)) :: ((q8, .inl (c.1, 8, .inl zf0)) :: ((q7, .inl (c.1, 8, .inl zf0)) :: ((q6, .inl (c.1, 8, .inl zf0)) :: ((q5, .inl (c.1, 8, .inl zf0)) :: ((q4, .inl (c.1, 8, .inl zf0)) :: ((q3, .inl (c.1, 8, .inl zf0)) :: ((q2, .inl (c.1, 8, .inl zf0)) :: ((q1, .inl (c.1, 100, .inl zf0)) :: ((a0, .inr (10, [.ref q1, .ref q2, .ref q3, .ref q4, .ref q5, .ref q6, .ref q7, .ref q8, .ref q9, .null, .null, .int 0, .int 0, .null, .int 0, .null, .int 0, .int 0, .int 0, .int 0, .int 0, .int 0, .int 0, .int 0, .int 0, .int 0, .int 0, .int 0, .int 0, .int 0, .null, .null, .null, .null, .null, .null, .int 0, .int 0, .int 0, .null, .null, .null, .int 0, .int 0, .int 0, .int 0])) :: []))))))))))) [(0, .ref a0)] 81 [.ref q10, .ref a0]
  refine g_putR (pc := 81) (X0 := X) (k1 := 10) (k2 := 204) (C := zr_Mo) (T := zf_Mo) (N := 46) (ci := 10) (w' := ((q10, .inl (c.1, 24, .inl zf0)) :: ((q9, .inl (c.1, 24, .inl zf0)) :: ((q8, .inl (c.1, 8, .inl zf0)) :: ((q7, .inl (c.1, 8, .inl zf0)) :: ((q6, .inl (c.1, 8, .inl zf0)) :: ((q5, .inl (c.1, 8, .inl zf0)) :: ((q4, .inl (c.1, 8, .inl zf0)) :: ((q3, .inl (c.1, 8, .inl zf0)) :: ((q2, .inl (c.1, 8, .inl zf0)) :: ((q1, .inl (c.1, 100, .inl zf0)) :: ((a0, .inr (10, [.ref q1, .ref q2, .ref q3, .ref q4, .ref q5, .ref q6, .ref q7, .ref q8, .ref q9, .ref q10, .null, .int 0, .int 0, .null, .int 0, .null, .int 0, .int 0, .int 0, .int 0, .int 0, .int 0, .int 0, .int 0, .int 0, .int 0, .int 0, .int 0, .int 0, .int 0, .null, .null, .null, .null, .null, .null, .int 0, .int 0, .int 0, .null, .null, .null, .int 0, .int 0, .int 0, .int 0])) :: [])))))))))))) rfl hR zt_Mo zo_Mo zn_Mo hO.ok zi_Mo 9 rfl zH_Mo_37 rfl rfl rfl rfl rfl rfl 10 rfl rfl rfl d_Mo_init_81 ?_
  refine g_aload_n (pc := 84) hO.ok d_Mo_init_84 rfl 0 rfl ?_
  refine g_bipush (pc := 85) hO.ok d_Mo_init_85 ze_8 ?_
  refine g_newIF (pc := 87) hO 8 (by decide) (by decide) rfl rfl rfl d_Mo_init_87 11 212 rfl rfl (fun q11 => ?_)
  have hO := hX.up 11 212 rfl rfl
  show Go (zUp X 11 212) ((q11, .inl (c.1, 8, .inl zf0)) :: ((q10, .inl (c.1, 24, .inl zf0)) :: ((q9, .inl (c.1, 24, .inl zf0)) :: ((q8, .inl (c.1, 8, .inl zf0)) :: ((q7, .inl (c.1, 8, .inl zf0)) :: ((q6, .inl (c.1, 8, .inl zf0)) :: ((q5, .inl (c.1, 8, .inl zf0)) :: ((q4, .inl (c.1, 8, .inl zf0)) :: ((q3, .inl (c.1, 8, .inl zf0)) :: ((q2, .inl (c.1, 8, .inl zf0)) :: ((q1, .inl (c.1, 100, .inl zf0)) :: ((a0, .inr (10, [.ref q1, .ref q2, .ref q3, .ref q4, .ref q5, .ref q6, .ref q7, .ref q8, .ref q9, .ref q10, .null, .int 0, .int 0, .null, .int 0, .null, .int 0, .int 0, .int 0, .int 0, .int 0, .int 0, .int 0, .int 0, .int 0, .int 0, .int 0, .int 0, .int 0, .int 0, .null, .null, .null, .null, .null, .null, .int 0, .int 0, .int 0, .null, .null, .null, .int 0, .int 0, .int 0, .int 0])) :: [])))))))))))) [(0, .ref a0)] 89 [.ref q11, .ref a0]
  refine g_putR (pc := 89) (X0 := X) (k1 := 11) (k2 := 212) (C := zr_Mo) (T := zf_Mo) (N := 46) (ci := 10) (w' := ((q11, .inl (c.1, 8, .inl zf0)) :: ((q10, .inl (c.1, 24, .inl zf0)) :: ((q9, .inl (c.1, 24, .inl zf0)) :: ((q8, .inl (c.1, 8, .inl zf0)) :: ((q7, .inl (c.1, 8, .inl zf0)) :: ((q6, .inl (c.1, 8, .inl zf0)) :: ((q5, .inl (c.1, 8, .inl zf0)) :: ((q4, .inl (c.1, 8, .inl zf0)) :: ((q3, .inl (c.1, 8, .inl zf0)) :: ((q2, .inl (c.1, 8, .inl zf0)) :: ((q1, .inl (c.1, 100, .inl zf0)) :: ((a0, .inr (10, [.ref q1, .ref q2, .ref q3, .ref q4, .ref q5, .ref q6, .ref q7, .ref q8, .ref q9, .ref q10, .ref q11, .int 0, .int 0, .null, .int 0, .null, .int 0, .int 0, .int 0, .int 0, .int 0, .int 0, .int 0, .int 0, .int 0, .int 0, .int 0, .int 0, .int 0, .int 0, .null, .null, .null, .null, .null, .null, .int 0, .int 0, .int 0, .null, .null, .null, .int 0, .int 0, .int 0, .int 0])) :: []))))))))))))) rfl hR zt_Mo zo_Mo zn_Mo hO.ok zi_Mo 10 rfl zH_Mo_40 rfl rfl rfl rfl rfl rfl 11 rfl rfl rfl d_Mo_init_89 ?_
  refine g_aload_n (pc := 92) hO.ok d_Mo_init_92 rfl 0 rfl ?_
  refine g_bipush (pc := 93) hO.ok d_Mo_init_93 ze_m5 ?_
  refine pf_Mo_43 (pc := 95) (w2 := ((q11, .inl (c.1, 8, .inl zf0)) :: ((q10, .inl (c.1, 24, .inl zf0)) :: ((q9, .inl (c.1, 24, .inl zf0)) :: ((q8, .inl (c.1, 8, .inl zf0)) :: ((q7, .inl (c.1, 8, .inl zf0)) :: ((q6, .inl (c.1, 8, .inl zf0)) :: ((q5, .inl (c.1, 8, .inl zf0)) :: ((q4, .inl (c.1, 8, .inl zf0)) :: ((q3, .inl (c.1, 8, .inl zf0)) :: ((q2, .inl (c.1, 8, .inl zf0)) :: ((q1, .inl (c.1, 100, .inl zf0)) :: ((a0, .inr (10, [.ref q1, .ref q2, .ref q3, .ref q4, .ref q5, .ref q6, .ref q7, .ref q8, .ref q9, .ref q10, .ref q11, .int 0, .int ((-5 : Int32)), .null, .int 0, .null, .int 0, .int 0, .int 0, .int 0, .int 0, .int 0, .int 0, .int 0, .int 0, .int 0, .int 0, .int 0, .int 0, .int 0, .null, .null, .null, .null, .null, .null, .int 0, .int 0, .int 0, .null, .null, .null, .int 0, .int 0, .int 0, .int 0])) :: []))))))))))))) hO.ok 11 rfl rfl rfl d_Mo_init_95 ?_
  refine g_aload_n (pc := 98) hO.ok d_Mo_init_98 rfl 0 rfl ?_
  refine g_sipush (pc := 99) hO.ok d_Mo_init_99 zh_300 ?_
  refine g_newIF (pc := 102) hO 300 (by decide) (by decide) rfl rfl rfl d_Mo_init_102 12 512 rfl rfl (fun q12 => ?_)
  have hO := hX.up 12 512 rfl rfl
  show Go (zUp X 12 512) ((q12, .inl (c.1, 300, .inl zf0)) :: ((q11, .inl (c.1, 8, .inl zf0)) :: ((q10, .inl (c.1, 24, .inl zf0)) :: ((q9, .inl (c.1, 24, .inl zf0)) :: ((q8, .inl (c.1, 8, .inl zf0)) :: ((q7, .inl (c.1, 8, .inl zf0)) :: ((q6, .inl (c.1, 8, .inl zf0)) :: ((q5, .inl (c.1, 8, .inl zf0)) :: ((q4, .inl (c.1, 8, .inl zf0)) :: ((q3, .inl (c.1, 8, .inl zf0)) :: ((q2, .inl (c.1, 8, .inl zf0)) :: ((q1, .inl (c.1, 100, .inl zf0)) :: ((a0, .inr (10, [.ref q1, .ref q2, .ref q3, .ref q4, .ref q5, .ref q6, .ref q7, .ref q8, .ref q9, .ref q10, .ref q11, .int 0, .int ((-5 : Int32)), .null, .int 0, .null, .int 0, .int 0, .int 0, .int 0, .int 0, .int 0, .int 0, .int 0, .int 0, .int 0, .int 0, .int 0, .int 0, .int 0, .null, .null, .null, .null, .null, .null, .int 0, .int 0, .int 0, .null, .null, .null, .int 0, .int 0, .int 0, .int 0])) :: []))))))))))))) [(0, .ref a0)] 104 [.ref q12, .ref a0]
  refine g_putR (pc := 104) (X0 := X) (k1 := 12) (k2 := 512) (C := zr_Mo) (T := zf_Mo) (N := 46) (ci := 10) (w' := ((q12, .inl (c.1, 300, .inl zf0)) :: ((q11, .inl (c.1, 8, .inl zf0)) :: ((q10, .inl (c.1, 24, .inl zf0)) :: ((q9, .inl (c.1, 24, .inl zf0)) :: ((q8, .inl (c.1, 8, .inl zf0)) :: ((q7, .inl (c.1, 8, .inl zf0)) :: ((q6, .inl (c.1, 8, .inl zf0)) :: ((q5, .inl (c.1, 8, .inl zf0)) :: ((q4, .inl (c.1, 8, .inl zf0)) :: ((q3, .inl (c.1, 8, .inl zf0)) :: ((q2, .inl (c.1, 8, .inl zf0)) :: ((q1, .inl (c.1, 100, .inl zf0)) :: ((a0, .inr (10, [.ref q1, .ref q2, .ref q3, .ref q4, .ref q5, .ref q6, .ref q7, .ref q8, .ref q9, .ref q10, .ref q11, .int 0, .int ((-5 : Int32)), .ref q12, .int 0, .null, .int 0, .int 0, .int 0, .int 0, .int 0, .int 0, .int 0, .int 0, .int 0, .int 0, .int 0, .int 0, .int 0, .int 0, .null, .null, .null, .null, .null, .null, .int 0, .int 0, .int 0, .null, .null, .null, .int 0, .int 0, .int 0, .int 0])) :: [])))))))))))))) rfl hR zt_Mo zo_Mo zn_Mo hO.ok zi_Mo 13 rfl zH_Mo_47 rfl rfl rfl rfl rfl rfl 12 rfl rfl rfl d_Mo_init_104 ?_
  refine g_aload_n (pc := 107) hO.ok d_Mo_init_107 rfl 0 rfl ?_
  refine g_sipush (pc := 108) hO.ok d_Mo_init_108 zh_384 ?_
  refine g_newIF (pc := 111) hO 384 (by decide) (by decide) rfl rfl rfl d_Mo_init_111 13 896 rfl rfl (fun q13 => ?_)
  have hO := hX.up 13 896 rfl rfl
  show Go (zUp X 13 896) ((q13, .inl (c.1, 384, .inl zf0)) :: ((q12, .inl (c.1, 300, .inl zf0)) :: ((q11, .inl (c.1, 8, .inl zf0)) :: ((q10, .inl (c.1, 24, .inl zf0)) :: ((q9, .inl (c.1, 24, .inl zf0)) :: ((q8, .inl (c.1, 8, .inl zf0)) :: ((q7, .inl (c.1, 8, .inl zf0)) :: ((q6, .inl (c.1, 8, .inl zf0)) :: ((q5, .inl (c.1, 8, .inl zf0)) :: ((q4, .inl (c.1, 8, .inl zf0)) :: ((q3, .inl (c.1, 8, .inl zf0)) :: ((q2, .inl (c.1, 8, .inl zf0)) :: ((q1, .inl (c.1, 100, .inl zf0)) :: ((a0, .inr (10, [.ref q1, .ref q2, .ref q3, .ref q4, .ref q5, .ref q6, .ref q7, .ref q8, .ref q9, .ref q10, .ref q11, .int 0, .int ((-5 : Int32)), .ref q12, .int 0, .null, .int 0, .int 0, .int 0, .int 0, .int 0, .int 0, .int 0, .int 0, .int 0, .int 0, .int 0, .int 0, .int 0, .int 0, .null, .null, .null, .null, .null, .null, .int 0, .int 0, .int 0, .null, .null, .null, .int 0, .int 0, .int 0, .int 0])) :: [])))))))))))))) [(0, .ref a0)] 113 [.ref q13, .ref a0]
  refine g_putR (pc := 113) (X0 := X) (k1 := 13) (k2 := 896) (C := zr_Mo) (T := zf_Mo) (N := 46) (ci := 10) (w' := ((q13, .inl (c.1, 384, .inl zf0)) :: ((q12, .inl (c.1, 300, .inl zf0)) :: ((q11, .inl (c.1, 8, .inl zf0)) :: ((q10, .inl (c.1, 24, .inl zf0)) :: ((q9, .inl (c.1, 24, .inl zf0)) :: ((q8, .inl (c.1, 8, .inl zf0)) :: ((q7, .inl (c.1, 8, .inl zf0)) :: ((q6, .inl (c.1, 8, .inl zf0)) :: ((q5, .inl (c.1, 8, .inl zf0)) :: ((q4, .inl (c.1, 8, .inl zf0)) :: ((q3, .inl (c.1, 8, .inl zf0)) :: ((q2, .inl (c.1, 8, .inl zf0)) :: ((q1, .inl (c.1, 100, .inl zf0)) :: ((a0, .inr (10, [.ref q1, .ref q2, .ref q3, .ref q4, .ref q5, .ref q6, .ref q7, .ref q8, .ref q9, .ref q10, .ref q11, .int 0, .int ((-5 : Int32)), .ref q12, .int 0, .ref q13, .int 0, .int 0, .int 0, .int 0, .int 0, .int 0, .int 0, .int 0, .int 0, .int 0, .int 0, .int 0, .int 0, .int 0, .null, .null, .null, .null, .null, .null, .int 0, .int 0, .int 0, .null, .null, .null, .int 0, .int 0, .int 0, .int 0])) :: []))))))))))))))) rfl hR zt_Mo zo_Mo zn_Mo hO.ok zi_Mo 15 rfl zH_Mo_50 rfl rfl rfl rfl rfl rfl 13 rfl rfl rfl d_Mo_init_113 ?_
  refine g_aload_n (pc := 116) hO.ok d_Mo_init_116 rfl 0 rfl ?_
  refine g_bipush (pc := 117) hO.ok d_Mo_init_117 ze_8 ?_
  refine g_newIF (pc := 119) hO 8 (by decide) (by decide) rfl rfl rfl d_Mo_init_119 14 904 rfl rfl (fun q14 => ?_)
  have hO := hX.up 14 904 rfl rfl
  show Go (zUp X 14 904) ((q14, .inl (c.1, 8, .inl zf0)) :: ((q13, .inl (c.1, 384, .inl zf0)) :: ((q12, .inl (c.1, 300, .inl zf0)) :: ((q11, .inl (c.1, 8, .inl zf0)) :: ((q10, .inl (c.1, 24, .inl zf0)) :: ((q9, .inl (c.1, 24, .inl zf0)) :: ((q8, .inl (c.1, 8, .inl zf0)) :: ((q7, .inl (c.1, 8, .inl zf0)) :: ((q6, .inl (c.1, 8, .inl zf0)) :: ((q5, .inl (c.1, 8, .inl zf0)) :: ((q4, .inl (c.1, 8, .inl zf0)) :: ((q3, .inl (c.1, 8, .inl zf0)) :: ((q2, .inl (c.1, 8, .inl zf0)) :: ((q1, .inl (c.1, 100, .inl zf0)) :: ((a0, .inr (10, [.ref q1, .ref q2, .ref q3, .ref q4, .ref q5, .ref q6, .ref q7, .ref q8, .ref q9, .ref q10, .ref q11, .int 0, .int ((-5 : Int32)), .ref q12, .int 0, .ref q13, .int 0, .int 0, .int 0, .int 0, .int 0, .int 0, .int 0, .int 0, .int 0, .int 0, .int 0, .int 0, .int 0, .int 0, .null, .null, .null, .null, .null, .null, .int 0, .int 0, .int 0, .null, .null, .null, .int 0, .int 0, .int 0, .int 0])) :: []))))))))))))))) [(0, .ref a0)] 121 [.ref q14, .ref a0]
  refine g_putR (pc := 121) (X0 := X) (k1 := 14) (k2 := 904) (C := zr_Mo) (T := zf_Mo) (N := 46) (ci := 10) (w' := ((q14, .inl (c.1, 8, .inl zf0)) :: ((q13, .inl (c.1, 384, .inl zf0)) :: ((q12, .inl (c.1, 300, .inl zf0)) :: ((q11, .inl (c.1, 8, .inl zf0)) :: ((q10, .inl (c.1, 24, .inl zf0)) :: ((q9, .inl (c.1, 24, .inl zf0)) :: ((q8, .inl (c.1, 8, .inl zf0)) :: ((q7, .inl (c.1, 8, .inl zf0)) :: ((q6, .inl (c.1, 8, .inl zf0)) :: ((q5, .inl (c.1, 8, .inl zf0)) :: ((q4, .inl (c.1, 8, .inl zf0)) :: ((q3, .inl (c.1, 8, .inl zf0)) :: ((q2, .inl (c.1, 8, .inl zf0)) :: ((q1, .inl (c.1, 100, .inl zf0)) :: ((a0, .inr (10, [.ref q1, .ref q2, .ref q3, .ref q4, .ref q5, .ref q6, .ref q7, .ref q8, .ref q9, .ref q10, .ref q11, .int 0, .int ((-5 : Int32)), .ref q12, .int 0, .ref q13, .int 0, .int 0, .int 0, .int 0, .int 0, .int 0, .int 0, .int 0, .int 0, .int 0, .int 0, .int 0, .int 0, .int 0, .ref q14, .null, .null, .null, .null, .null, .int 0, .int 0, .int 0, .null, .null, .null, .int 0, .int 0, .int 0, .int 0])) :: [])))))))))))))))) rfl hR zt_Mo zo_Mo zn_Mo hO.ok zi_Mo 30 rfl zH_Mo_53 rfl rfl rfl rfl rfl rfl 14 rfl rfl rfl d_Mo_init_121 ?_
  refine g_aload_n (pc := 124) hO.ok d_Mo_init_124 rfl 0 rfl ?_
  refine g_bipush (pc := 125) hO.ok d_Mo_init_125 ze_100 ?_
  refine g_newIF (pc := 127) hO 100 (by decide) (by decide) rfl rfl rfl d_Mo_init_127 15 1004 rfl rfl (fun q15 => ?_)
  have hO := hX.up 15 1004 rfl rfl
  show Go (zUp X 15 1004) ((q15, .inl (c.1, 100, .inl zf0)) :: ((q14, .inl (c.1, 8, .inl zf0)) :: ((q13, .inl (c.1, 384, .inl zf0)) :: ((q12, .inl (c.1, 300, .inl zf0)) :: ((q11, .inl (c.1, 8, .inl zf0)) :: ((q10, .inl (c.1, 24, .inl zf0)) :: ((q9, .inl (c.1, 24, .inl zf0)) :: ((q8, .inl (c.1, 8, .inl zf0)) :: ((q7, .inl (c.1, 8, .inl zf0)) :: ((q6, .inl (c.1, 8, .inl zf0)) :: ((q5, .inl (c.1, 8, .inl zf0)) :: ((q4, .inl (c.1, 8, .inl zf0)) :: ((q3, .inl (c.1, 8, .inl zf0)) :: ((q2, .inl (c.1, 8, .inl zf0)) :: ((q1, .inl (c.1, 100, .inl zf0)) :: ((a0, .inr (10, [.ref q1, .ref q2, .ref q3, .ref q4, .ref q5, .ref q6, .ref q7, .ref q8, .ref q9, .ref q10, .ref q11, .int 0, .int ((-5 : Int32)), .ref q12, .int 0, .ref q13, .int 0, .int 0, .int 0, .int 0, .int 0, .int 0, .int 0, .int 0, .int 0, .int 0, .int 0, .int 0, .int 0, .int 0, .ref q14, .null, .null, .null, .null, .null, .int 0, .int 0, .int 0, .null, .null, .null, .int 0, .int 0, .int 0, .int 0])) :: [])))))))))))))))) [(0, .ref a0)] 129 [.ref q15, .ref a0]
  refine g_putR (pc := 129) (X0 := X) (k1 := 15) (k2 := 1004) (C := zr_Mo) (T := zf_Mo) (N := 46) (ci := 10) (w' := ((q15, .inl (c.1, 100, .inl zf0)) :: ((q14, .inl (c.1, 8, .inl zf0)) :: ((q13, .inl (c.1, 384, .inl zf0)) :: ((q12, .inl (c.1, 300, .inl zf0)) :: ((q11, .inl (c.1, 8, .inl zf0)) :: ((q10, .inl (c.1, 24, .inl zf0)) :: ((q9, .inl (c.1, 24, .inl zf0)) :: ((q8, .inl (c.1, 8, .inl zf0)) :: ((q7, .inl (c.1, 8, .inl zf0)) :: ((q6, .inl (c.1, 8, .inl zf0)) :: ((q5, .inl (c.1, 8, .inl zf0)) :: ((q4, .inl (c.1, 8, .inl zf0)) :: ((q3, .inl (c.1, 8, .inl zf0)) :: ((q2, .inl (c.1, 8, .inl zf0)) :: ((q1, .inl (c.1, 100, .inl zf0)) :: ((a0, .inr (10, [.ref q1, .ref q2, .ref q3, .ref q4, .ref q5, .ref q6, .ref q7, .ref q8, .ref q9, .ref q10, .ref q11, .int 0, .int ((-5 : Int32)), .ref q12, .int 0, .ref q13, .int 0, .int 0, .int 0, .int 0, .int 0, .int 0, .int 0, .int 0, .int 0, .int 0, .int 0, .int 0, .int 0, .int 0, .ref q14, .ref q15, .null, .null, .null, .null, .int 0, .int 0, .int 0, .null, .null, .null, .int 0, .int 0, .int 0, .int 0])) :: []))))))))))))))))) rfl hR zt_Mo zo_Mo zn_Mo hO.ok zi_Mo 31 rfl zH_Mo_56 rfl rfl rfl rfl rfl rfl 15 rfl rfl rfl d_Mo_init_129 ?_
  refine g_aload_n (pc := 132) hO.ok d_Mo_init_132 rfl 0 rfl ?_
  refine g_bipush (pc := 133) hO.ok d_Mo_init_133 ze_100 ?_
  refine g_newIF (pc := 135) hO 100 (by decide) (by decide) rfl rfl rfl d_Mo_init_135 16 1104 rfl rfl (fun q16 => ?_)
  have hO := hX.up 16 1104 rfl rfl
  show Go (zUp X 16 1104) ((q16, .inl (c.1, 100, .inl zf0)) :: ((q15, .inl (c.1, 100, .inl zf0)) :: ((q14, .inl (c.1, 8, .inl zf0)) :: ((q13, .inl (c.1, 384, .inl zf0)) :: ((q12, .inl (c.1, 300, .inl zf0)) :: ((q11, .inl (c.1, 8, .inl zf0)) :: ((q10, .inl (c.1, 24, .inl zf0)) :: ((q9, .inl (c.1, 24, .inl zf0)) :: ((q8, .inl (c.1, 8, .inl zf0)) :: ((q7, .inl (c.1, 8, .inl zf0)) :: ((q6, .inl (c.1, 8, .inl zf0)) :: ((q5, .inl (c.1, 8, .inl zf0)) :: ((q4, .inl (c.1, 8, .inl zf0)) :: ((q3, .inl (c.1, 8, .inl zf0)) :: ((q2, .inl (c.1, 8, .inl zf0)) :: ((q1, .inl (c.1, 100, .inl zf0)) :: ((a0, .inr (10, [.ref q1, .ref q2, .ref q3, .ref q4, .ref q5, .ref q6, .ref q7, .ref q8, .ref q9, .ref q10, .ref q11, .int 0, .int ((-5 : Int32)), .ref q12, .int 0, .ref q13, .int 0, .int 0, .int 0, .int 0, .int 0, .int 0, .int 0, .int 0, .int 0, .int 0, .int 0, .int 0, .int 0, .int 0, .ref q14, .ref q15, .null, .null, .null, .null, .int 0, .int 0, .int 0, .null, .null, .null, .int 0, .int 0, .int 0, .int 0])) :: []))))))))))))))))) [(0, .ref a0)] 137 [.ref q16, .ref a0]
  refine g_putR (pc := 137) (X0 := X) (k1 := 16) (k2 := 1104) (C := zr_Mo) (T := zf_Mo) (N := 46) (ci := 10) (w' := ((q16, .inl (c.1, 100, .inl zf0)) :: ((q15, .inl (c.1, 100, .inl zf0)) :: ((q14, .inl (c.1, 8, .inl zf0)) :: ((q13, .inl (c.1, 384, .inl zf0)) :: ((q12, .inl (c.1, 300, .inl zf0)) :: ((q11, .inl (c.1, 8, .inl zf0)) :: ((q10, .inl (c.1, 24, .inl zf0)) :: ((q9, .inl (c.1, 24, .inl zf0)) :: ((q8, .inl (c.1, 8, .inl zf0)) :: ((q7, .inl (c.1, 8, .inl zf0)) :: ((q6, .inl (c.1, 8, .inl zf0)) :: ((q5, .inl (c.1, 8, .inl zf0)) :: ((q4, .inl (c.1, 8, .inl zf0)) :: ((q3, .inl (c.1, 8, .inl zf0)) :: ((q2, .inl (c.1, 8, .inl zf0)) :: ((q1, .inl (c.1, 100, .inl zf0)) :: ((a0, .inr (10, [.ref q1, .ref q2, .ref q3, .ref q4, .ref q5, .ref q6, .ref q7, .ref q8, .ref q9, .ref q10, .ref q11, .int 0, .int ((-5 : Int32)), .ref q12, .int 0, .ref q13, .int 0, .int 0, .int 0, .int 0, .int 0, .int 0, .int 0, .int 0, .int 0, .int 0, .int 0, .int 0, .int 0, .int 0, .ref q14, .ref q15, .ref q16, .null, .null, .null, .int 0, .int 0, .int 0, .null, .null, .null, .int 0, .int 0, .int 0, .int 0])) :: [])))))))))))))))))) rfl hR zt_Mo zo_Mo zn_Mo hO.ok zi_Mo 32 rfl zH_Mo_59 rfl rfl rfl rfl rfl rfl 16 rfl rfl rfl d_Mo_init_137 ?_
  refine g_aload_n (pc := 140) hO.ok d_Mo_init_140 rfl 0 rfl ?_
  refine g_bipush (pc := 141) hO.ok d_Mo_init_141 ze_100 ?_
  refine g_newIF (pc := 143) hO 100 (by decide) (by decide) rfl rfl rfl d_Mo_init_143 17 1204 rfl rfl (fun q17 => ?_)
  have hO := hX.up 17 1204 rfl rfl
  show Go (zUp X 17 1204) ((q17, .inl (c.1, 100, .inl zf0)) :: ((q16, .inl (c.1, 100, .inl zf0)) :: ((q15, .inl (c.1, 100, .inl zf0)) :: ((q14, .inl (c.1, 8, .inl zf0)) :: ((q13, .inl (c.1, 384, .inl zf0)) :: ((q12, .inl (c.1, 300, .inl zf0)) :: ((q11, .inl (c.1, 8, .inl zf0)) :: ((q10, .inl (c.1, 24, .inl zf0)) :: ((q9, .inl (c.1, 24, .inl zf0)) :: ((q8, .inl (c.1, 8, .inl zf0)) :: ((q7, .inl (c.1, 8, .inl zf0)) :: ((q6, .inl (c.1, 8, .inl zf0)) :: ((q5, .inl (c.1, 8, .inl zf0)) :: ((q4, .inl (c.1, 8, .inl zf0)) :: ((q3, .inl (c.1, 8, .inl zf0)) :: ((q2, .inl (c.1, 8, .inl zf0)) :: ((q1, .inl (c.1, 100, .inl zf0)) :: ((a0, .inr (10, [.ref q1, .ref q2, .ref q3, .ref q4, .ref q5, .ref q6, .ref q7, .ref q8, .ref q9, .ref q10, .ref q11, .int 0, .int ((-5 : Int32)), .ref q12, .int 0, .ref q13, .int 0, .int 0, .int 0, .int 0, .int 0, .int 0, .int 0, .int 0, .int 0, .int 0, .int 0, .int 0, .int 0, .int 0, .ref q14, .ref q15, .ref q16, .null, .null, .null, .int 0, .int 0, .int 0, .null, .null, .null, .int 0, .int 0, .int 0, .int 0])) :: [])))))))))))))))))) [(0, .ref a0)] 145 [.ref q17, .ref a0]
  refine g_putR (pc := 145) (X0 := X) (k1 := 17) (k2 := 1204) (C := zr_Mo) (T := zf_Mo) (N := 46) (ci := 10) (w' := ((q17, .inl (c.1, 100, .inl zf0)) :: ((q16, .inl (c.1, 100, .inl zf0)) :: ((q15, .inl (c.1, 100, .inl zf0)) :: ((q14, .inl (c.1, 8, .inl zf0)) :: ((q13, .inl (c.1, 384, .inl zf0)) :: ((q12, .inl (c.1, 300, .inl zf0)) :: ((q11, .inl (c.1, 8, .inl zf0)) :: ((q10, .inl (c.1, 24, .inl zf0)) :: ((q9, .inl (c.1, 24, .inl zf0)) :: ((q8, .inl (c.1, 8, .inl zf0)) :: ((q7, .inl (c.1, 8, .inl zf0)) :: ((q6, .inl (c.1, 8, .inl zf0)) :: ((q5, .inl (c.1, 8, .inl zf0)) :: ((q4, .inl (c.1, 8, .inl zf0)) :: ((q3, .inl (c.1, 8, .inl zf0)) :: ((q2, .inl (c.1, 8, .inl zf0)) :: ((q1, .inl (c.1, 100, .inl zf0)) :: ((a0, .inr (10, [.ref q1, .ref q2, .ref q3, .ref q4, .ref q5, .ref q6, .ref q7, .ref q8, .ref q9, .ref q10, .ref q11, .int 0, .int ((-5 : Int32)), .ref q12, .int 0, .ref q13, .int 0, .int 0, .int 0, .int 0, .int 0, .int 0, .int 0, .int 0, .int 0, .int 0, .int 0, .int 0, .int 0, .int 0, .ref q14, .ref q15, .ref q16, .ref q17, .null, .null, .int 0, .int 0, .int 0, .null, .null, .null, .int 0, .int 0, .int 0, .int 0])) :: []))))))))))))))))))) rfl hR zt_Mo zo_Mo zn_Mo hO.ok zi_Mo 33 rfl zH_Mo_62 rfl rfl rfl rfl rfl rfl 17 rfl rfl rfl d_Mo_init_145 ?_
  refine g_aload_n (pc := 148) hO.ok d_Mo_init_148 rfl 0 rfl ?_
  refine g_bipush (pc := 149) hO.ok d_Mo_init_149 ze_40 ?_
  refine g_newIF (pc := 151) hO 40 (by decide) (by decide) rfl rfl rfl d_Mo_init_151 18 1244 rfl rfl (fun q18 => ?_)
  have hO := hX.up 18 1244 rfl rfl
  show Go (zUp X 18 1244) ((q18, .inl (c.1, 40, .inl zf0)) :: ((q17, .inl (c.1, 100, .inl zf0)) :: ((q16, .inl (c.1, 100, .inl zf0)) :: ((q15, .inl (c.1, 100, .inl zf0)) :: ((q14, .inl (c.1, 8, .inl zf0)) :: ((q13, .inl (c.1, 384, .inl zf0)) :: ((q12, .inl (c.1, 300, .inl zf0)) :: ((q11, .inl (c.1, 8, .inl zf0)) :: ((q10, .inl (c.1, 24, .inl zf0)) :: ((q9, .inl (c.1, 24, .inl zf0)) :: ((q8, .inl (c.1, 8, .inl zf0)) :: ((q7, .inl (c.1, 8, .inl zf0)) :: ((q6, .inl (c.1, 8, .inl zf0)) :: ((q5, .inl (c.1, 8, .inl zf0)) :: ((q4, .inl (c.1, 8, .inl zf0)) :: ((q3, .inl (c.1, 8, .inl zf0)) :: ((q2, .inl (c.1, 8, .inl zf0)) :: ((q1, .inl (c.1, 100, .inl zf0)) :: ((a0, .inr (10, [.ref q1, .ref q2, .ref q3, .ref q4, .ref q5, .ref q6, .ref q7, .ref q8, .ref q9, .ref q10, .ref q11, .int 0, .int ((-5 : Int32)), .ref q12, .int 0, .ref q13, .int 0, .int 0, .int 0, .int 0, .int 0, .int 0, .int 0, .int 0, .int 0, .int 0, .int 0, .int 0, .int 0, .int 0, .ref q14, .ref q15, .ref q16, .ref q17, .null, .null, .int 0, .int 0, .int 0, .null, .null, .null, .int 0, .int 0, .int 0, .int 0])) :: []))))))))))))))))))) [(0, .ref a0)] 153 [.ref q18, .ref a0]
  refine g_putR (pc := 153) (X0 := X) (k1 := 18) (k2 := 1244) (C := zr_Mo) (T := zf_Mo) (N := 46) (ci := 10) (w' := ((q18, .inl (c.1, 40, .inl zf0)) :: ((q17, .inl (c.1, 100, .inl zf0)) :: ((q16, .inl (c.1, 100, .inl zf0)) :: ((q15, .inl (c.1, 100, .inl zf0)) :: ((q14, .inl (c.1, 8, .inl zf0)) :: ((q13, .inl (c.1, 384, .inl zf0)) :: ((q12, .inl (c.1, 300, .inl zf0)) :: ((q11, .inl (c.1, 8, .inl zf0)) :: ((q10, .inl (c.1, 24, .inl zf0)) :: ((q9, .inl (c.1, 24, .inl zf0)) :: ((q8, .inl (c.1, 8, .inl zf0)) :: ((q7, .inl (c.1, 8, .inl zf0)) :: ((q6, .inl (c.1, 8, .inl zf0)) :: ((q5, .inl (c.1, 8, .inl zf0)) :: ((q4, .inl (c.1, 8, .inl zf0)) :: ((q3, .inl (c.1, 8, .inl zf0)) :: ((q2, .inl (c.1, 8, .inl zf0)) :: ((q1, .inl (c.1, 100, .inl zf0)) :: ((a0, .inr (10, [.ref q1, .ref q2, .ref q3, .ref q4, .ref q5, .ref q6, .ref q7, .ref q8, .ref q9, .ref q10, .ref q11, .int 0, .int ((-5 : Int32)), .ref q12, .int 0, .ref q13, .int 0, .int 0, .int 0, .int 0, .int 0, .int 0, .int 0, .int 0, .int 0, .int 0, .int 0, .int 0, .int 0, .int 0, .ref q14, .ref q15, .ref q16, .ref q17, .ref q18, .null, .int 0, .int 0, .int 0, .null, .null, .null, .int 0, .int 0, .int 0, .int 0])) :: [])))))))))))))))))))) rfl hR zt_Mo zo_Mo zn_Mo hO.ok zi_Mo 34 rfl zH_Mo_65 rfl rfl rfl rfl rfl rfl 18 rfl rfl rfl d_Mo_init_153 ?_
  refine g_aload_n (pc := 156) hO.ok d_Mo_init_156 rfl 0 rfl ?_
  refine g_bipush (pc := 157) hO.ok d_Mo_init_157 ze_25 ?_
  refine g_newIF (pc := 159) hO 25 (by decide) (by decide) rfl rfl rfl d_Mo_init_159 19 1269 rfl rfl (fun q19 => ?_)
  have hO := hX.up 19 1269 rfl rfl
  show Go (zUp X 19 1269) ((q19, .inl (c.1, 25, .inl zf0)) :: ((q18, .inl (c.1, 40, .inl zf0)) :: ((q17, .inl (c.1, 100, .inl zf0)) :: ((q16, .inl (c.1, 100, .inl zf0)) :: ((q15, .inl (c.1, 100, .inl zf0)) :: ((q14, .inl (c.1, 8, .inl zf0)) :: ((q13, .inl (c.1, 384, .inl zf0)) :: ((q12, .inl (c.1, 300, .inl zf0)) :: ((q11, .inl (c.1, 8, .inl zf0)) :: ((q10, .inl (c.1, 24, .inl zf0)) :: ((q9, .inl (c.1, 24, .inl zf0)) :: ((q8, .inl (c.1, 8, .inl zf0)) :: ((q7, .inl (c.1, 8, .inl zf0)) :: ((q6, .inl (c.1, 8, .inl zf0)) :: ((q5, .inl (c.1, 8, .inl zf0)) :: ((q4, .inl (c.1, 8, .inl zf0)) :: ((q3, .inl (c.1, 8, .inl zf0)) :: ((q2, .inl (c.1, 8, .inl zf0)) :: ((q1, .inl (c.1, 100, .inl zf0)) :: ((a0, .inr (10, [.ref q1, .ref q2, .ref q3, .ref q4, .ref q5, .ref q6, .ref q7, .ref q8, .ref q9, .ref q10, .ref q11, .int 0, .int ((-5 : Int32)), .ref q12, .int 0, .ref q13, .int 0, .int 0, .int 0, .int 0, .int 0, .int 0, .int 0, .int 0, .int 0, .int 0, .int 0, .int 0, .int 0, .int 0, .ref q14, .ref q15, .ref q16, .ref q17, .ref q18, .null, .int 0, .int 0, .int 0, .null, .null, .null, .int 0, .int 0, .int 0, .int 0])) :: [])))))))))))))))))))) [(0, .ref a0)] 161 [.ref q19, .ref a0]
  refine g_putR (pc := 161) (X0 := X) (k1 := 19) (k2 := 1269) (C := zr_Mo) (T := zf_Mo) (N := 46) (ci := 10) (w' := ((q19, .inl (c.1, 25, .inl zf0)) :: ((q18, .inl (c.1, 40, .inl zf0)) :: ((q17, .inl (c.1, 100, .inl zf0)) :: ((q16, .inl (c.1, 100, .inl zf0)) :: ((q15, .inl (c.1, 100, .inl zf0)) :: ((q14, .inl (c.1, 8, .inl zf0)) :: ((q13, .inl (c.1, 384, .inl zf0)) :: ((q12, .inl (c.1, 300, .inl zf0)) :: ((q11, .inl (c.1, 8, .inl zf0)) :: ((q10, .inl (c.1, 24, .inl zf0)) :: ((q9, .inl (c.1, 24, .inl zf0)) :: ((q8, .inl (c.1, 8, .inl zf0)) :: ((q7, .inl (c.1, 8, .inl zf0)) :: ((q6, .inl (c.1, 8, .inl zf0)) :: ((q5, .inl (c.1, 8, .inl zf0)) :: ((q4, .inl (c.1, 8, .inl zf0)) :: ((q3, .inl (c.1, 8, .inl zf0)) :: ((q2, .inl (c.1, 8, .inl zf0)) :: ((q1, .inl (c.1, 100, .inl zf0)) :: ((a0, .inr (10, [.ref q1, .ref q2, .ref q3, .ref q4, .ref q5, .ref q6, .ref q7, .ref q8, .ref q9, .ref q10, .ref q11, .int 0, .int ((-5 : Int32)), .ref q12, .int 0, .ref q13, .int 0, .int 0, .int 0, .int 0, .int 0, .int 0, .int 0, .int 0, .int 0, .int 0, .int 0, .int 0, .int 0, .int 0, .ref q14, .ref q15, .ref q16, .ref q17, .ref q18, .ref q19, .int 0, .int 0, .int 0, .null, .null, .null, .int 0, .int 0, .int 0, .int 0])) :: []))))))))))))))))))))) rfl hR zt_Mo zo_Mo zn_Mo hO.ok zi_Mo 35 rfl zH_Mo_68 rfl rfl rfl rfl rfl rfl 19 rfl rfl rfl d_Mo_init_161 ?_
  refine g_aload_n (pc := 164) hO.ok d_Mo_init_164 rfl 0 rfl ?_
  refine g_bipush (pc := 165) hO.ok d_Mo_init_165 ze_100 ?_
  refine g_newZF (pc := 167) hO 100 (by decide) (by decide) rfl rfl rfl d_Mo_init_167 20 1369 rfl rfl (fun q20 => ?_)
  have hO := hX.up 20 1369 rfl rfl
  show Go (zUp X 20 1369) ((q20, .inl (c.2.1, 100, .inl zf0)) :: ((q19, .inl (c.1, 25, .inl zf0)) :: ((q18, .inl (c.1, 40, .inl zf0)) :: ((q17, .inl (c.1, 100, .inl zf0)) :: ((q16, .inl (c.1, 100, .inl zf0)) :: ((q15, .inl (c.1, 100, .inl zf0)) :: ((q14, .inl (c.1, 8, .inl zf0)) :: ((q13, .inl (c.1, 384, .inl zf0)) :: ((q12, .inl (c.1, 300, .inl zf0)) :: ((q11, .inl (c.1, 8, .inl zf0)) :: ((q10, .inl (c.1, 24, .inl zf0)) :: ((q9, .inl (c.1, 24, .inl zf0)) :: ((q8, .inl (c.1, 8, .inl zf0)) :: ((q7, .inl (c.1, 8, .inl zf0)) :: ((q6, .inl (c.1, 8, .inl zf0)) :: ((q5, .inl (c.1, 8, .inl zf0)) :: ((q4, .inl (c.1, 8, .inl zf0)) :: ((q3, .inl (c.1, 8, .inl zf0)) :: ((q2, .inl (c.1, 8, .inl zf0)) :: ((q1, .inl (c.1, 100, .inl zf0)) :: ((a0, .inr (10, [.ref q1, .ref q2, .ref q3, .ref q4, .ref q5, .ref q6, .ref q7, .ref q8, .ref q9, .ref q10, .ref q11, .int 0, .int ((-5 : Int32)), .ref q12, .int 0, .ref q13, .int 0, .int 0, .int 0, .int 0, .int 0, .int 0, .int 0, .int 0, .int 0, .int 0, .int 0, .int 0, .int 0, .int 0, .ref q14, .ref q15, .ref q16, .ref q17, .ref q18, .ref q19, .int 0, .int 0, .int 0, .null, .null, .null, .int 0, .int 0, .int 0, .int 0])) :: []))))))))))))))))))))) [(0, .ref a0)] 169 [.ref q20, .ref a0]
  refine g_putR (pc := 169) (X0 := X) (k1 := 20) (k2 := 1369) (C := zr_Mo) (T := zf_Mo) (N := 46) (ci := 10) (w' := ((q20, .inl (c.2.1, 100, .inl zf0)) :: ((q19, .inl (c.1, 25, .inl zf0)) :: ((q18, .inl (c.1, 40, .inl zf0)) :: ((q17, .inl (c.1, 100, .inl zf0)) :: ((q16, .inl (c.1, 100, .inl zf0)) :: ((q15, .inl (c.1, 100, .inl zf0)) :: ((q14, .inl (c.1, 8, .inl zf0)) :: ((q13, .inl (c.1, 384, .inl zf0)) :: ((q12, .inl (c.1, 300, .inl zf0)) :: ((q11, .inl (c.1, 8, .inl zf0)) :: ((q10, .inl (c.1, 24, .inl zf0)) :: ((q9, .inl (c.1, 24, .inl zf0)) :: ((q8, .inl (c.1, 8, .inl zf0)) :: ((q7, .inl (c.1, 8, .inl zf0)) :: ((q6, .inl (c.1, 8, .inl zf0)) :: ((q5, .inl (c.1, 8, .inl zf0)) :: ((q4, .inl (c.1, 8, .inl zf0)) :: ((q3, .inl (c.1, 8, .inl zf0)) :: ((q2, .inl (c.1, 8, .inl zf0)) :: ((q1, .inl (c.1, 100, .inl zf0)) :: ((a0, .inr (10, [.ref q1, .ref q2, .ref q3, .ref q4, .ref q5, .ref q6, .ref q7, .ref q8, .ref q9, .ref q10, .ref q11, .int 0, .int ((-5 : Int32)), .ref q12, .int 0, .ref q13, .int 0, .int 0, .int 0, .int 0, .int 0, .int 0, .int 0, .int 0, .int 0, .int 0, .int 0, .int 0, .int 0, .int 0, .ref q14, .ref q15, .ref q16, .ref q17, .ref q18, .ref q19, .int 0, .int 0, .int 0, .ref q20, .null, .null, .int 0, .int 0, .int 0, .int 0])) :: [])))))))))))))))))))))) rfl hR zt_Mo zo_Mo zn_Mo hO.ok zi_Mo 39 rfl zH_Mo_71 rfl rfl rfl rfl rfl rfl 20 rfl rfl rfl d_Mo_init_169 ?_
  refine g_aload_n (pc := 172) hO.ok d_Mo_init_172 rfl 0 rfl ?_
  refine g_sipush (pc := 173) hO.ok d_Mo_init_173 zh_6078 ?_
  refine g_newIF (pc := 176) hO 6078 (by decide) (by decide) rfl rfl rfl d_Mo_init_176 21 7447 rfl rfl (fun q21 => ?_)
  have hO := hX.up 21 7447 rfl rfl
  show Go (zUp X 21 7447) ((q21, .inl (c.1, 6078, .inl zf0)) :: ((q20, .inl (c.2.1, 100, .inl zf0)) :: ((q19, .inl (c.1, 25, .inl zf0)) :: ((q18, .inl (c.1, 40, .inl zf0)) :: ((q17, .inl (c.1, 100, .inl zf0)) :: ((q16, .inl (c.1, 100, .inl zf0)) :: ((q15, .inl (c.1, 100, .inl zf0)) :: ((q14, .inl (c.1, 8, .inl zf0)) :: ((q13, .inl (c.1, 384, .inl zf0)) :: ((q12, .inl (c.1, 300, .inl zf0)) :: ((q11, .inl (c.1, 8, .inl zf0)) :: ((q10, .inl (c.1, 24, .inl zf0)) :: ((q9, .inl (c.1, 24, .inl zf0)) :: ((q8, .inl (c.1, 8, .inl zf0)) :: ((q7, .inl (c.1, 8, .inl zf0)) :: ((q6, .inl (c.1, 8, .inl zf0)) :: ((q5, .inl (c.1, 8, .inl zf0)) :: ((q4, .inl (c.1, 8, .inl zf0)) :: ((q3, .inl (c.1, 8, .inl zf0)) :: ((q2, .inl (c.1, 8, .inl zf0)) :: ((q1, .inl (c.1, 100, .inl zf0)) :: ((a0, .inr (10, [.ref q1, .ref q2, .ref q3, .ref q4, .ref q5, .ref q6, .ref q7, .ref q8, .ref q9, .ref q10, .ref q11, .int 0, .int ((-5 : Int32)), .ref q12, .int 0, .ref q13, .int 0, .int 0, .int 0, .int 0, .int 0, .int 0, .int 0, .int 0, .int 0, .int 0, .int 0, .int 0, .int 0, .int 0, .ref q14, .ref q15, .ref q16, .ref q17, .ref q18, .ref q19, .int 0, .int 0, .int 0, .ref q20, .null, .null, .int 0, .int 0, .int 0, .int 0])) :: [])))))))))))))))))))))) [(0, .ref a0)] 178 [.ref q21, .ref a0]
  refine g_putR (pc := 178) (X0 := X) (k1 := 21) (k2 := 7447) (C := zr_Mo) (T := zf_Mo) (N := 46) (ci := 10) (w' := ((q21, .inl (c.1, 6078, .inl zf0)) :: ((q20, .inl (c.2.1, 100, .inl zf0)) :: ((q19, .inl (c.1, 25, .inl zf0)) :: ((q18, .inl (c.1, 40, .inl zf0)) :: ((q17, .inl (c.1, 100, .inl zf0)) :: ((q16, .inl (c.1, 100, .inl zf0)) :: ((q15, .inl (c.1, 100, .inl zf0)) :: ((q14, .inl (c.1, 8, .inl zf0)) :: ((q13, .inl (c.1, 384, .inl zf0)) :: ((q12, .inl (c.1, 300, .inl zf0)) :: ((q11, .inl (c.1, 8, .inl zf0)) :: ((q10, .inl (c.1, 24, .inl zf0)) :: ((q9, .inl (c.1, 24, .inl zf0)) :: ((q8, .inl (c.1, 8, .inl zf0)) :: ((q7, .inl (c.1, 8, .inl zf0)) :: ((q6, .inl (c.1, 8, .inl zf0)) :: ((q5, .inl (c.1, 8, .inl zf0)) :: ((q4, .inl (c.1, 8, .inl zf0)) :: ((q3, .inl (c.1, 8, .inl zf0)) :: ((q2, .inl (c.1, 8, .inl zf0)) :: ((q1, .inl (c.1, 100, .inl zf0)) :: ((a0, .inr (10, [.ref q1, .ref q2, .ref q3, .ref q4, .ref q5, .ref q6, .ref q7, .ref q8, .ref q9, .ref q10, .ref q11, .int 0, .int ((-5 : Int32)), .ref q12, .int 0, .ref q13, .int 0, .int 0, .int 0, .int 0, .int 0, .int 0, .int 0, .int 0, .int 0, .int 0, .int 0, .int 0, .int 0, .int 0, .ref q14, .ref q15, .ref q16, .ref q17, .ref q18, .ref q19, .int 0, .int 0, .int 0, .ref q20, .ref q21, .null, .int 0, .int 0, .int 0, .int 0])) :: []))))))))))))))))))))))) rfl hR zt_Mo zo_Mo zn_Mo hO.ok zi_Mo 40 rfl zH_Mo_75 rfl rfl rfl rfl rfl rfl 21 rfl rfl rfl d_Mo_init_178 ?_
  refine g_aload_n (pc := 181) hO.ok d_Mo_init_181 rfl 0 rfl ?_
  refine g_sipush (pc := 182) hO.ok d_Mo_init_182 zh_1013 ?_
  refine g_newIF (pc := 185) hO 1013 (by decide) (by decide) rfl rfl rfl d_Mo_init_185 22 8460 rfl rfl (fun q22 => ?_)
  have hO := hX.up 22 8460 rfl rfl
  show Go (zUp X 22 8460) ((q22, .inl (c.1, 1013, .inl zf0)) :: ((q21, .inl (c.1, 6078, .inl zf0)) :: ((q20, .inl (c.2.1, 100, .inl zf0)) :: ((q19, .inl (c.1, 25, .inl zf0)) :: ((q18, .inl (c.1, 40, .inl zf0)) :: ((q17, .inl (c.1, 100, .inl zf0)) :: ((q16, .inl (c.1, 100, .inl zf0)) :: ((q15, .inl (c.1, 100, .inl zf0)) :: ((q14, .inl (c.1, 8, .inl zf0)) :: ((q13, .inl (c.1, 384, .inl zf0)) :: ((q12, .inl (c.1, 300, .inl zf0)) :: ((q11, .inl (c.1, 8, .inl zf0)) :: ((q10, .inl (c.1, 24, .inl zf0)) :: ((q9, .inl (c.1, 24, .inl zf0)) :: ((q8, .inl (c.1, 8, .inl zf0)) :: ((q7, .inl (c.1, 8, .inl zf0)) :: ((q6, .inl (c.1, 8, .inl zf0)) :: ((q5, .inl (c.1, 8, .inl zf0)) :: ((q4, .inl (c.1, 8, .inl zf0)) :: ((q3, .inl (c.1, 8, .inl zf0)) :: ((q2, .inl (c.1, 8, .inl zf0)) :: ((q1, .inl (c.1, 100, .inl zf0)) :: ((a0, .inr (10, [.ref q1, .ref q2, .ref q3, .ref q4, .ref q5, .ref q6, .ref q7, .ref q8, .ref q9, .ref q10, .ref q11, .int 0, .int ((-5 : Int32)), .ref q12, .int 0, .ref q13, .int 0, .int 0, .int 0, .int 0, .int 0, .int 0, .int 0, .int 0, .int 0, .int 0, .int 0, .int 0, .int 0, .int 0, .ref q14, .ref q15, .ref q16, .ref q17, .ref q18, .ref q19, .int 0, .int 0, .int 0, .ref q20, .ref q21, .null, .int 0, .int 0, .int 0, .int 0])) :: []))))))))))))))))))))))) [(0, .ref a0)] 187 [.ref q22, .ref a0]
  refine g_putR (pc := 187) (X0 := X) (k1 := 22) (k2 := 8460) (C := zr_Mo) (T := zf_Mo) (N := 46) (ci := 10) (w' := ((q22, .inl (c.1, 1013, .inl zf0)) :: ((q21, .inl (c.1, 6078, .inl zf0)) :: ((q20, .inl (c.2.1, 100, .inl zf0)) :: ((q19, .inl (c.1, 25, .inl zf0)) :: ((q18, .inl (c.1, 40, .inl zf0)) :: ((q17, .inl (c.1, 100, .inl zf0)) :: ((q16, .inl (c.1, 100, .inl zf0)) :: ((q15, .inl (c.1, 100, .inl zf0)) :: ((q14, .inl (c.1, 8, .inl zf0)) :: ((q13, .inl (c.1, 384, .inl zf0)) :: ((q12, .inl (c.1, 300, .inl zf0)) :: ((q11, .inl (c.1, 8, .inl zf0)) :: ((q10, .inl (c.1, 24, .inl zf0)) :: ((q9, .inl (c.1, 24, .inl zf0)) :: ((q8, .inl (c.1, 8, .inl zf0)) :: ((q7, .inl (c.1, 8, .inl zf0)) :: ((q6, .inl (c.1, 8, .inl zf0)) :: ((q5, .inl (c.1, 8, .inl zf0)) :: ((q4, .inl (c.1, 8, .inl zf0)) :: ((q3, .inl (c.1, 8, .inl zf0)) :: ((q2, .inl (c.1, 8, .inl zf0)) :: ((q1, .inl (c.1, 100, .inl zf0)) :: ((a0, .inr (10, [.ref q1, .ref q2, .ref q3, .ref q4, .ref q5, .ref q6, .ref q7, .ref q8, .ref q9, .ref q10, .ref q11, .int 0, .int ((-5 : Int32)), .ref q12, .int 0, .ref q13, .int 0, .int 0, .int 0, .int 0, .int 0, .int 0, .int 0, .int 0, .int 0, .int 0, .int 0, .int 0, .int 0, .int 0, .ref q14, .ref q15, .ref q16, .ref q17, .ref q18, .ref q19, .int 0, .int 0, .int 0, .ref q20, .ref q21, .ref q22, .int 0, .int 0, .int 0, .int 0])) :: [])))))))))))))))))))))))) rfl hR zt_Mo zo_Mo zn_Mo hO.ok zi_Mo 41 rfl zH_Mo_78 rfl rfl rfl rfl rfl rfl 22 rfl rfl rfl d_Mo_init_187 ?_
  refine g_sub (w' := zwM c (fun i => [a0, q1, q2, q3, q4, q5, q6, q7, q8, q9, q10, q11, q12, q13, q14, q15, q16, q17, q18, q19, q20, q21, q22].getD i 0) zm0) [22, 21, 20, 19, 18, 17, 16, 15, 14, 13, 12, 11, 10, 9, 8, 7, 6, 5, 4, 3, 2, 1, 0] rfl rfl ?_
  exact g_cret (X0 := X) rfl hR hO.ok ⟨(fun i => [a0, q1, q2, q3, q4, q5, q6, q7, q8, q9, q10, q11, q12, q13, q14, q15, q16, q17, q18, q19, q20, q21, q22].getD i 0), rfl, rfl⟩ d_Mo_init_190)
