theorem d_Ta_copyRows_0 : decode zb_Ta_copyRows 0 = .ok (.aload_n 1, 1) := by decide +kernel
theorem d_Ta_copyRows_1 : decode zb_Ta_copyRows 1 = .ok (.getfield 23, 3) := by decide +kernel
theorem d_Ta_copyRows_4 : decode zb_Ta_copyRows 4 = .ok (.aload_n 1, 1) := by decide +kernel
theorem d_Ta_copyRows_5 : decode zb_Ta_copyRows 5 = .ok (.getfield 7, 3) := by decide +kernel
theorem d_Ta_copyRows_8 : decode zb_Ta_copyRows 8 = .ok (.imul, 1) := by decide +kernel
theorem d_Ta_copyRows_9 : decode zb_Ta_copyRows 9 = .ok (.aload_n 0, 1) := by decide +kernel
theorem d_Ta_copyRows_10 : decode zb_Ta_copyRows 10 = .ok (.getfield 19, 3) := by decide +kernel
theorem d_Ta_copyRows_13 : decode zb_Ta_copyRows 13 = .ok (.arraylength, 1) := by decide +kernel
theorem d_Ta_copyRows_14 : decode zb_Ta_copyRows 14 = .ok (.aload_n 1, 1) := by decide +kernel
theorem d_Ta_copyRows_15 : decode zb_Ta_copyRows 15 = .ok (.getfield 19, 3) := by decide +kernel
theorem d_Ta_copyRows_18 : decode zb_Ta_copyRows 18 = .ok (.arraylength, 1) := by decide +kernel
theorem d_Ta_copyRows_19 : decode zb_Ta_copyRows 19 = .ok (.invokestatic 32, 3) := by decide +kernel
theorem d_Ta_copyRows_22 : decode zb_Ta_copyRows 22 = .ok (.invokestatic 32, 3) := by decide +kernel
theorem d_Ta_copyRows_25 : decode zb_Ta_copyRows 25 = .ok (.istore_n 2, 1) := by decide +kernel
theorem d_Ta_copyRows_26 : decode zb_Ta_copyRows 26 = .ok (.iload_n 2, 1) := by decide +kernel
theorem d_Ta_copyRows_27 : decode zb_Ta_copyRows 27 = .ok (.ifCond .le 17, 3) := by decide +kernel
theorem d_Ta_copyRows_30 : decode zb_Ta_copyRows 30 = .ok (.aload_n 1, 1) := by decide +kernel
theorem d_Ta_copyRows_31 : decode zb_Ta_copyRows 31 = .ok (.getfield 19, 3) := by decide +kernel
theorem d_Ta_copyRows_34 : decode zb_Ta_copyRows 34 = .ok (.iconst 0, 1) := by decide +kernel
theorem d_Ta_copyRows_35 : decode zb_Ta_copyRows 35 = .ok (.aload_n 0, 1) := by decide +kernel
theorem d_Ta_copyRows_36 : decode zb_Ta_copyRows 36 = .ok (.getfield 19, 3) := by decide +kernel
theorem d_Ta_copyRows_39 : decode zb_Ta_copyRows 39 = .ok (.iconst 0, 1) := by decide +kernel
theorem d_Ta_copyRows_40 : decode zb_Ta_copyRows 40 = .ok (.iload_n 2, 1) := by decide +kernel
theorem d_Ta_copyRows_41 : decode zb_Ta_copyRows 41 = .ok (.invokestatic 26, 3) := by decide +kernel
theorem d_Ta_copyRows_44 : decode zb_Ta_copyRows 44 = .ok (.aload_n 0, 1) := by decide +kernel
theorem d_Ta_copyRows_45 : decode zb_Ta_copyRows 45 = .ok (.aload_n 1, 1) := by decide +kernel
theorem d_Ta_copyRows_46 : decode zb_Ta_copyRows 46 = .ok (.getfield 23, 3) := by decide +kernel
theorem d_Ta_copyRows_49 : decode zb_Ta_copyRows 49 = .ok (.putfield 23, 3) := by decide +kernel
theorem d_Ta_copyRows_52 : decode zb_Ta_copyRows 52 = .ok (.return_, 1) := by decide +kernel
def k_Ta_copyRows (w : Int32) (n : Nat) (y : zsT) (x : zsT) : Option (zsT) := (if 0 < (zmin ((y.2 * w)) ((zmin ((Int32.ofNat n)) ((Int32.ofNat n))))) then (if zOutC ((0 : Int32)) ((0 : Int32)) ((zmin ((y.2 * w)) ((zmin ((Int32.ofNat n)) ((Int32.ofNat n)))))) n n then none else some (((va_cpy y.1 x.1 ((0 : Int32)).toNatClampNeg ((0 : Int32)).toNatClampNeg ((zmin ((y.2 * w)) ((zmin ((Int32.ofNat n)) ((Int32.ofNat n)))))).toNatClampNeg), y.2))) else some ((x.1, y.2)))
set_option maxRecDepth 20000 in
theorem c_Ta_copyRows (c : zY) (a0 a1 b0 b1 : Nat) (w : Int32) (n : Nat) (y : zsT) (x : zsT) {out : zsT} (h : k_Ta_copyRows w n y x = some out) : KM zy_Ta_copyRows zb_Ta_copyRows 3 none 1 c [.ref a0, .ref b0] (zwTT c a0 a1 b0 b1 w n y x) (zwTT c a0 a1 b0 b1 w n y out) none := zK_of zp_Ta rfl (Nat.le_of_ble_eq_true rfl) (zq_TT c a0 a1 b0 b1 w n y _ _) (fun X hX hR => by
  show Go X (zwTT c a0 a1 b0 b1 w n y x) [(0, .ref a0), (1, .ref b0)] 0 []
  rw [k_Ta_copyRows] at h
  refine g_aload_n (pc := 0) hX d_Ta_copyRows_0 rfl 1 rfl ?_
  refine gf_Ta_23 (pc := 1) (v := .int y.2) hX 2 rfl rfl d_Ta_copyRows_1 ?_
  refine g_aload_n (pc := 4) hX d_Ta_copyRows_4 rfl 1 rfl ?_
  refine gf_Ta_7 (pc := 5) (v := .int w) hX 2 rfl rfl d_Ta_copyRows_5 ?_
  refine g_imul (pc := 8) hX d_Ta_copyRows_8 ?_
  refine g_aload_n (pc := 9) hX d_Ta_copyRows_9 rfl 0 rfl ?_
  refine gf_Ta_19 (pc := 10) (v := .ref a1) hX 0 rfl rfl d_Ta_copyRows_10 ?_
  refine g_alen (pc := 13) (v := (Int32.ofNat n)) hX 1 rfl rfl d_Ta_copyRows_13 ?_
  refine g_aload_n (pc := 14) hX d_Ta_copyRows_14 rfl 1 rfl ?_
  refine gf_Ta_19 (pc := 15) (v := .ref b1) hX 2 rfl rfl d_Ta_copyRows_15 ?_
  refine g_alen (pc := 18) (v := (Int32.ofNat n)) hX 3 rfl rfl d_Ta_copyRows_18 ?_
  refine g_mmin (pc := 19) hX zL_Ta_32 rfl rfl d_Ta_copyRows_19 ?_
  refine g_mmin (pc := 22) hX zL_Ta_32 rfl rfl d_Ta_copyRows_22 ?_
  refine g_istore_n (pc := 25) (L' := [(2, .int ((zmin ((y.2 * w)) ((zmin ((Int32.ofNat n)) ((Int32.ofNat n))))))), (0, .ref a0), (1, .ref b0)]) hX d_Ta_copyRows_25 rfl rfl rfl ?_
  refine g_iload_n (pc := 26) hX d_Ta_copyRows_26 rfl 0 rfl ?_
  refine g_if_le (pc := 27) (tgt := 44) hX d_Ta_copyRows_27 (by decide) h (fun c1 h => ?_) (fun c1 h => ?_)
  · refine g_aload_n (pc := 44) hX d_Ta_copyRows_44 rfl 1 rfl ?_
    refine g_aload_n (pc := 45) hX d_Ta_copyRows_45 rfl 2 rfl ?_
    refine gf_Ta_23 (pc := 46) (v := .int y.2) hX 2 rfl rfl d_Ta_copyRows_46 ?_
    refine pf_Ta_23 (pc := 49) (w2 := (zwTT c a0 a1 b0 b1 w n y ((x.1, y.2)))) hX 0 rfl rfl (su_TT_0_2 c a0 a1 b0 b1 w n y x y.2) d_Ta_copyRows_49 ?_
    obtain rfl := Option.some.inj h
    exact g_vret (pc := 52) hX hR d_Ta_copyRows_52
  · refine g_aload_n (pc := 30) hX d_Ta_copyRows_30 rfl 2 rfl ?_
    refine gf_Ta_19 (pc := 31) (v := .ref b1) hX 2 rfl rfl d_Ta_copyRows_31 ?_
    refine g_iconst (pc := 34) hX d_Ta_copyRows_34 zc_0 ?_
    refine g_aload_n (pc := 35) hX d_Ta_copyRows_35 rfl 1 rfl ?_
    refine gf_Ta_19 (pc := 36) (v := .ref a1) hX 0 rfl rfl d_Ta_copyRows_36 ?_
    refine g_iconst (pc := 39) hX d_Ta_copyRows_39 zc_0 ?_
    refine g_iload_n (pc := 40) hX d_Ta_copyRows_40 rfl 0 rfl ?_
    refine g_copy (pc := 41) (f := y.1) (g := x.1) (w' := (zwTT c a0 a1 b0 b1 w n y (((va_cpy y.1 x.1 ((0 : Int32)).toNatClampNeg ((0 : Int32)).toNatClampNeg ((zmin ((y.2 * w)) ((zmin ((Int32.ofNat n)) ((Int32.ofNat n)))))).toNatClampNeg), x.2)))) hX zL_Ta_26 rfl rfl 3 1 rfl rfl h (sa_TT_1 c a0 a1 b0 b1 w n y x (va_cpy y.1 x.1 ((0 : Int32)).toNatClampNeg ((0 : Int32)).toNatClampNeg ((zmin ((y.2 * w)) ((zmin ((Int32.ofNat n)) ((Int32.ofNat n)))))).toNatClampNeg)) d_Ta_copyRows_41 (fun h => ?_)
    refine g_aload_n (pc := 44) hX d_Ta_copyRows_44 rfl 1 rfl ?_
    refine g_aload_n (pc := 45) hX d_Ta_copyRows_45 rfl 2 rfl ?_
    refine gf_Ta_23 (pc := 46) (v := .int y.2) hX 2 rfl rfl d_Ta_copyRows_46 ?_
    refine pf_Ta_23 (pc := 49) (w2 := (zwTT c a0 a1 b0 b1 w n y (((va_cpy y.1 x.1 ((0 : Int32)).toNatClampNeg ((0 : Int32)).toNatClampNeg ((zmin ((y.2 * w)) ((zmin ((Int32.ofNat n)) ((Int32.ofNat n)))))).toNatClampNeg), y.2)))) hX 0 rfl rfl (su_TT_0_2 c a0 a1 b0 b1 w n y (((va_cpy y.1 x.1 ((0 : Int32)).toNatClampNeg ((0 : Int32)).toNatClampNeg ((zmin ((y.2 * w)) ((zmin ((Int32.ofNat n)) ((Int32.ofNat n)))))).toNatClampNeg), x.2)) y.2) d_Ta_copyRows_49 ?_
    obtain rfl := Option.some.inj h
    exact g_vret (pc := 52) hX hR d_Ta_copyRows_52)
theorem d_Jo_copyFrom_0 : decode zb_Jo_copyFrom 0 = .ok (.aload_n 1, 1) := by decide +kernel
theorem d_Jo_copyFrom_1 : decode zb_Jo_copyFrom 1 = .ok (.getfield 15, 3) := by decide +kernel
theorem d_Jo_copyFrom_4 : decode zb_Jo_copyFrom 4 = .ok (.sipush 300, 3) := by decide +kernel
theorem d_Jo_copyFrom_7 : decode zb_Jo_copyFrom 7 = .ok (.invokestatic 33, 3) := by decide +kernel
theorem d_Jo_copyFrom_10 : decode zb_Jo_copyFrom 10 = .ok (.iconst 3, 1) := by decide +kernel
theorem d_Jo_copyFrom_11 : decode zb_Jo_copyFrom 11 = .ok (.imul, 1) := by decide +kernel
theorem d_Jo_copyFrom_12 : decode zb_Jo_copyFrom 12 = .ok (.aload_n 0, 1) := by decide +kernel
theorem d_Jo_copyFrom_13 : decode zb_Jo_copyFrom 13 = .ok (.getfield 11, 3) := by decide +kernel
theorem d_Jo_copyFrom_16 : decode zb_Jo_copyFrom 16 = .ok (.arraylength, 1) := by decide +kernel
theorem d_Jo_copyFrom_17 : decode zb_Jo_copyFrom 17 = .ok (.invokestatic 33, 3) := by decide +kernel
theorem d_Jo_copyFrom_20 : decode zb_Jo_copyFrom 20 = .ok (.istore_n 2, 1) := by decide +kernel
theorem d_Jo_copyFrom_21 : decode zb_Jo_copyFrom 21 = .ok (.iload_n 2, 1) := by decide +kernel
theorem d_Jo_copyFrom_22 : decode zb_Jo_copyFrom 22 = .ok (.ifCond .le 26, 3) := by decide +kernel
theorem d_Jo_copyFrom_25 : decode zb_Jo_copyFrom 25 = .ok (.iload_n 2, 1) := by decide +kernel
theorem d_Jo_copyFrom_26 : decode zb_Jo_copyFrom 26 = .ok (.aload_n 1, 1) := by decide +kernel
theorem d_Jo_copyFrom_27 : decode zb_Jo_copyFrom 27 = .ok (.getfield 11, 3) := by decide +kernel
theorem d_Jo_copyFrom_30 : decode zb_Jo_copyFrom 30 = .ok (.arraylength, 1) := by decide +kernel
theorem d_Jo_copyFrom_31 : decode zb_Jo_copyFrom 31 = .ok (.if_icmp .gt 17, 3) := by decide +kernel
theorem d_Jo_copyFrom_34 : decode zb_Jo_copyFrom 34 = .ok (.aload_n 1, 1) := by decide +kernel
theorem d_Jo_copyFrom_35 : decode zb_Jo_copyFrom 35 = .ok (.getfield 11, 3) := by decide +kernel
theorem d_Jo_copyFrom_38 : decode zb_Jo_copyFrom 38 = .ok (.iconst 0, 1) := by decide +kernel
theorem d_Jo_copyFrom_39 : decode zb_Jo_copyFrom 39 = .ok (.aload_n 0, 1) := by decide +kernel
theorem d_Jo_copyFrom_40 : decode zb_Jo_copyFrom 40 = .ok (.getfield 11, 3) := by decide +kernel
theorem d_Jo_copyFrom_43 : decode zb_Jo_copyFrom 43 = .ok (.iconst 0, 1) := by decide +kernel
theorem d_Jo_copyFrom_44 : decode zb_Jo_copyFrom 44 = .ok (.iload_n 2, 1) := by decide +kernel
theorem d_Jo_copyFrom_45 : decode zb_Jo_copyFrom 45 = .ok (.invokestatic 38, 3) := by decide +kernel
theorem d_Jo_copyFrom_48 : decode zb_Jo_copyFrom 48 = .ok (.aload_n 0, 1) := by decide +kernel
theorem d_Jo_copyFrom_49 : decode zb_Jo_copyFrom 49 = .ok (.aload_n 1, 1) := by decide +kernel
theorem d_Jo_copyFrom_50 : decode zb_Jo_copyFrom 50 = .ok (.getfield 15, 3) := by decide +kernel
theorem d_Jo_copyFrom_53 : decode zb_Jo_copyFrom 53 = .ok (.putfield 15, 3) := by decide +kernel
theorem d_Jo_copyFrom_56 : decode zb_Jo_copyFrom 56 = .ok (.return_, 1) := by decide +kernel
def k_Jo_copyFrom (y : zsT) (x : zsT) : Option (zsT) := (if 0 < (zmin (((zmin y.2 ((300 : Int32))) * (3 : Int32))) ((900 : Int32))) then (if (900 : Int32) < (zmin (((zmin y.2 ((300 : Int32))) * (3 : Int32))) ((900 : Int32))) then some ((x.1, y.2)) else (if zOutC ((0 : Int32)) ((0 : Int32)) ((zmin (((zmin y.2 ((300 : Int32))) * (3 : Int32))) ((900 : Int32)))) 900 900 then none else some (((va_cpy y.1 x.1 ((0 : Int32)).toNatClampNeg ((0 : Int32)).toNatClampNeg ((zmin (((zmin y.2 ((300 : Int32))) * (3 : Int32))) ((900 : Int32)))).toNatClampNeg), y.2)))) else some ((x.1, y.2)))
set_option maxRecDepth 20000 in
theorem c_Jo_copyFrom (c : zY) (q r : Nat → Nat) (y : zsT) (x : zsT) {out : zsT} (h : k_Jo_copyFrom y x = some out) : KM zy_Jo_copyFrom zb_Jo_copyFrom 3 none 1 c [.ref ((q 0)), .ref ((r 0))] (zwJJ c q r y x) (zwJJ c q r y out) none := zK_of zp_Jo rfl (Nat.le_of_ble_eq_true rfl) (zq_JJ c q r y _ _) (fun X hX hR => by
  show Go X (zwJJ c q r y x) [(0, .ref ((q 0))), (1, .ref ((r 0)))] 0 []
  rw [k_Jo_copyFrom] at h
  refine g_aload_n (pc := 0) hX d_Jo_copyFrom_0 rfl 1 rfl ?_
  refine gf_Jo_15 (pc := 1) (v := .int y.2) hX 2 rfl rfl d_Jo_copyFrom_1 ?_
  refine g_sipush (pc := 4) hX d_Jo_copyFrom_4 zh_300 ?_
  refine g_mmin (pc := 7) hX zL_Jo_33 rfl rfl d_Jo_copyFrom_7 ?_
  refine g_iconst (pc := 10) hX d_Jo_copyFrom_10 zc_3 ?_
  refine g_imul (pc := 11) hX d_Jo_copyFrom_11 ?_
  refine g_aload_n (pc := 12) hX d_Jo_copyFrom_12 rfl 0 rfl ?_
  refine gf_Jo_11 (pc := 13) (v := .ref ((q 1))) hX 0 rfl rfl d_Jo_copyFrom_13 ?_
  refine g_alen (pc := 16) (v := (900 : Int32)) hX 1 rfl rfl d_Jo_copyFrom_16 ?_
  refine g_mmin (pc := 17) hX zL_Jo_33 rfl rfl d_Jo_copyFrom_17 ?_
  refine g_istore_n (pc := 20) (L' := [(2, .int ((zmin (((zmin y.2 ((300 : Int32))) * (3 : Int32))) ((900 : Int32))))), (0, .ref ((q 0))), (1, .ref ((r 0)))]) hX d_Jo_copyFrom_20 rfl rfl rfl ?_
  refine g_iload_n (pc := 21) hX d_Jo_copyFrom_21 rfl 0 rfl ?_
  refine g_if_le (pc := 22) (tgt := 48) hX d_Jo_copyFrom_22 (by decide) h (fun c1 h => ?_) (fun c1 h => ?_)
  · refine g_aload_n (pc := 48) hX d_Jo_copyFrom_48 rfl 1 rfl ?_
    refine g_aload_n (pc := 49) hX d_Jo_copyFrom_49 rfl 2 rfl ?_
    refine gf_Jo_15 (pc := 50) (v := .int y.2) hX 2 rfl rfl d_Jo_copyFrom_50 ?_
    refine pf_Jo_15 (pc := 53) (w2 := (zwJJ c q r y ((x.1, y.2)))) hX 0 rfl rfl (su_JJ_0_1 c q r y x y.2) d_Jo_copyFrom_53 ?_
    obtain rfl := Option.some.inj h
    exact g_vret (pc := 56) hX hR d_Jo_copyFrom_56
  · refine g_iload_n (pc := 25) hX d_Jo_copyFrom_25 rfl 0 rfl ?_
    refine g_aload_n (pc := 26) hX d_Jo_copyFrom_26 rfl 2 rfl ?_
    refine gf_Jo_11 (pc := 27) (v := .ref ((r 1))) hX 2 rfl rfl d_Jo_copyFrom_27 ?_
    refine g_alen (pc := 30) (v := (900 : Int32)) hX 3 rfl rfl d_Jo_copyFrom_30 ?_
    refine g_icmp_gt (pc := 31) (tgt := 48) hX d_Jo_copyFrom_31 (by decide) h (fun c2 h => ?_) (fun c2 h => ?_)
    · refine g_aload_n (pc := 48) hX d_Jo_copyFrom_48 rfl 1 rfl ?_
      refine g_aload_n (pc := 49) hX d_Jo_copyFrom_49 rfl 2 rfl ?_
      refine gf_Jo_15 (pc := 50) (v := .int y.2) hX 2 rfl rfl d_Jo_copyFrom_50 ?_
      refine pf_Jo_15 (pc := 53) (w2 := (zwJJ c q r y ((x.1, y.2)))) hX 0 rfl rfl (su_JJ_0_1 c q r y x y.2) d_Jo_copyFrom_53 ?_
      obtain rfl := Option.some.inj h
      exact g_vret (pc := 56) hX hR d_Jo_copyFrom_56
    · refine g_aload_n (pc := 34) hX d_Jo_copyFrom_34 rfl 2 rfl ?_
      refine gf_Jo_11 (pc := 35) (v := .ref ((r 1))) hX 2 rfl rfl d_Jo_copyFrom_35 ?_
      refine g_iconst (pc := 38) hX d_Jo_copyFrom_38 zc_0 ?_
      refine g_aload_n (pc := 39) hX d_Jo_copyFrom_39 rfl 1 rfl ?_
      refine gf_Jo_11 (pc := 40) (v := .ref ((q 1))) hX 0 rfl rfl d_Jo_copyFrom_40 ?_
      refine g_iconst (pc := 43) hX d_Jo_copyFrom_43 zc_0 ?_
      refine g_iload_n (pc := 44) hX d_Jo_copyFrom_44 rfl 0 rfl ?_
      refine g_copy (pc := 45) (f := y.1) (g := x.1) (w' := (zwJJ c q r y (((va_cpy y.1 x.1 ((0 : Int32)).toNatClampNeg ((0 : Int32)).toNatClampNeg ((zmin (((zmin y.2 ((300 : Int32))) * (3 : Int32))) ((900 : Int32)))).toNatClampNeg), x.2)))) hX zL_Jo_38 rfl rfl 3 1 rfl rfl h (sa_JJ_1 c q r y x (va_cpy y.1 x.1 ((0 : Int32)).toNatClampNeg ((0 : Int32)).toNatClampNeg ((zmin (((zmin y.2 ((300 : Int32))) * (3 : Int32))) ((900 : Int32)))).toNatClampNeg)) d_Jo_copyFrom_45 (fun h => ?_)
      refine g_aload_n (pc := 48) hX d_Jo_copyFrom_48 rfl 1 rfl ?_
      refine g_aload_n (pc := 49) hX d_Jo_copyFrom_49 rfl 2 rfl ?_
      refine gf_Jo_15 (pc := 50) (v := .int y.2) hX 2 rfl rfl d_Jo_copyFrom_50 ?_
      refine pf_Jo_15 (pc := 53) (w2 := (zwJJ c q r y (((va_cpy y.1 x.1 ((0 : Int32)).toNatClampNeg ((0 : Int32)).toNatClampNeg ((zmin (((zmin y.2 ((300 : Int32))) * (3 : Int32))) ((900 : Int32)))).toNatClampNeg), y.2)))) hX 0 rfl rfl (su_JJ_0_1 c q r y (((va_cpy y.1 x.1 ((0 : Int32)).toNatClampNeg ((0 : Int32)).toNatClampNeg ((zmin (((zmin y.2 ((300 : Int32))) * (3 : Int32))) ((900 : Int32)))).toNatClampNeg), x.2)) y.2) d_Jo_copyFrom_53 ?_
      obtain rfl := Option.some.inj h
      exact g_vret (pc := 56) hX hR d_Jo_copyFrom_56)
theorem d_Co_copyFrom_0 : decode zb_Co_copyFrom 0 = .ok (.aload_n 0, 1) := by decide +kernel
theorem d_Co_copyFrom_1 : decode zb_Co_copyFrom 1 = .ok (.getfield 16, 3) := by decide +kernel
theorem d_Co_copyFrom_4 : decode zb_Co_copyFrom 4 = .ok (.aload_n 1, 1) := by decide +kernel
theorem d_Co_copyFrom_5 : decode zb_Co_copyFrom 5 = .ok (.getfield 16, 3) := by decide +kernel
theorem d_Co_copyFrom_8 : decode zb_Co_copyFrom 8 = .ok (.invokevirtual 71, 3) := by decide +kernel
theorem d_Co_copyFrom_11 : decode zb_Co_copyFrom 11 = .ok (.return_, 1) := by decide +kernel
def k_Co_copyFrom (y : zsC) (x : zsC) : Option (zsC) := (k_Ta_copyRows 6 2304 y.2.1 x.2.1).bind fun o1 => some ((x.1, o1, x.2.2))
set_option maxRecDepth 20000 in
theorem c_Co_copyFrom (c : zY) (q r : Nat → Nat) (y : zsC) (x : zsC) {out : zsC} (h : k_Co_copyFrom y x = some out) : KM zy_Co_copyFrom zb_Co_copyFrom 2 none 2 c [.ref ((q 2)), .ref ((r 2))] (zwCC c q r y x) (zwCC c q r y out) none := zK_of zp_Co rfl (Nat.le_of_ble_eq_true rfl) (zq_CC c q r y _ _) (fun X hX hR => by
  show Go X (zwCC c q r y x) [(0, .ref ((q 2))), (1, .ref ((r 2)))] 0 []
  rw [k_Co_copyFrom] at h
  refine g_aload_n (pc := 0) hX d_Co_copyFrom_0 rfl 0 rfl ?_
  refine gf_Co_16 (pc := 1) (v := .ref ((q 3))) hX 2 rfl rfl d_Co_copyFrom_1 ?_
  refine g_aload_n (pc := 4) hX d_Co_copyFrom_4 rfl 1 rfl ?_
  refine gf_Co_16 (pc := 5) (v := .ref ((r 3))) hX 8 rfl rfl d_Co_copyFrom_5 ?_
  obtain ⟨o1, e1, h⟩ := zbind h
  refine zperm (zpp (sp_Co_Ta_3 c q x) (sp_Co_Ta_3 c r y)) ?_
  refine g_cvV (pc := 8) (w1 := []) (w2 := ((zu_Co_Ta_3 c q x ++ zv_Co_Ta_3 c q x) ++ (zu_Co_Ta_3 c r y ++ zv_Co_Ta_3 c r y))) (st := []) (w' := zwTT c (q 3) (q 4) (r 3) (r 4) 6 2304 y.2.1 o1 ++ ((zu_Co_Ta_3 c q x ++ zv_Co_Ta_3 c q x) ++ (zu_Co_Ta_3 c r y ++ zv_Co_Ta_3 c r y))) hX zk_Ta_copyRows zs_Ta_copyRows zL_Co_71 (c_Ta_copyRows c (q 3) (q 4) (r 3) (r 4) 6 2304 y.2.1 x.2.1 e1) rfl rfl rfl rfl rfl rfl 0 6 rfl rfl rfl d_Co_copyFrom_8 ?_
  refine zperm (w' := (zwCC c q r y ((x.1, o1, x.2.2)))) (zpp (sq_Co_Ta_3 c q x o1).symm (sp_Co_Ta_3 c r y)).symm ?_
  obtain rfl := Option.some.inj h
  exact g_vret (pc := 11) hX hR d_Co_copyFrom_11)
theorem d_Fi_copyFrom_0 : decode zb_Fi_copyFrom 0 = .ok (.aload_n 0, 1) := by decide +kernel
theorem d_Fi_copyFrom_1 : decode zb_Fi_copyFrom 1 = .ok (.getfield 16, 3) := by decide +kernel
theorem d_Fi_copyFrom_4 : decode zb_Fi_copyFrom 4 = .ok (.aload_n 1, 1) := by decide +kernel
theorem d_Fi_copyFrom_5 : decode zb_Fi_copyFrom 5 = .ok (.getfield 16, 3) := by decide +kernel
theorem d_Fi_copyFrom_8 : decode zb_Fi_copyFrom 8 = .ok (.invokevirtual 95, 3) := by decide +kernel
theorem d_Fi_copyFrom_11 : decode zb_Fi_copyFrom 11 = .ok (.aload_n 0, 1) := by decide +kernel
theorem d_Fi_copyFrom_12 : decode zb_Fi_copyFrom 12 = .ok (.aload_n 1, 1) := by decide +kernel
theorem d_Fi_copyFrom_13 : decode zb_Fi_copyFrom 13 = .ok (.getfield 67, 3) := by decide +kernel
theorem d_Fi_copyFrom_16 : decode zb_Fi_copyFrom 16 = .ok (.putfield 67, 3) := by decide +kernel
theorem d_Fi_copyFrom_19 : decode zb_Fi_copyFrom 19 = .ok (.aload_n 0, 1) := by decide +kernel
theorem d_Fi_copyFrom_20 : decode zb_Fi_copyFrom 20 = .ok (.aload_n 1, 1) := by decide +kernel
theorem d_Fi_copyFrom_21 : decode zb_Fi_copyFrom 21 = .ok (.getfield 85, 3) := by decide +kernel
theorem d_Fi_copyFrom_24 : decode zb_Fi_copyFrom 24 = .ok (.putfield 85, 3) := by decide +kernel
theorem d_Fi_copyFrom_27 : decode zb_Fi_copyFrom 27 = .ok (.return_, 1) := by decide +kernel
def k_Fi_copyFrom (y : zsF) (x : zsF) : Option (zsF) := (k_Ta_copyRows 13 104 y.2.1 x.2.1).bind fun o1 => some ((x.1, o1, (upd ((upd x.2.2 3 ((y.2.2 3)))) 4 ((y.2.2 4)))))
set_option maxRecDepth 20000 in
theorem c_Fi_copyFrom (c : zY) (q r : Nat → Nat) (y : zsF) (x : zsF) {out : zsF} (h : k_Fi_copyFrom y x = some out) : KM zy_Fi_copyFrom zb_Fi_copyFrom 2 none 2 c [.ref ((q 6)), .ref ((r 6))] (zwFF c q r y x) (zwFF c q r y out) none := zK_of zp_Fi rfl (Nat.le_of_ble_eq_true rfl) (zq_FF c q r y _ _) (fun X hX hR => by
  show Go X (zwFF c q r y x) [(0, .ref ((q 6))), (1, .ref ((r 6)))] 0 []
  rw [k_Fi_copyFrom] at h
  refine g_aload_n (pc := 0) hX d_Fi_copyFrom_0 rfl 0 rfl ?_
  refine gf_Fi_16 (pc := 1) (v := .ref ((q 7))) hX 6 rfl rfl d_Fi_copyFrom_1 ?_
  refine g_aload_n (pc := 4) hX d_Fi_copyFrom_4 rfl 1 rfl ?_
  refine gf_Fi_16 (pc := 5) (v := .ref ((r 7))) hX 15 rfl rfl d_Fi_copyFrom_5 ?_
  obtain ⟨o1, e1, h⟩ := zbind h
  refine zperm (zpp (sp_Fi_Ta_7 c q x) (sp_Fi_Ta_7 c r y)) ?_
  refine g_cvV (pc := 8) (w1 := []) (w2 := ((zu_Fi_Ta_7 c q x ++ zv_Fi_Ta_7 c q x) ++ (zu_Fi_Ta_7 c r y ++ zv_Fi_Ta_7 c r y))) (st := []) (w' := zwTT c (q 7) (q 8) (r 7) (r 8) 13 104 y.2.1 o1 ++ ((zu_Fi_Ta_7 c q x ++ zv_Fi_Ta_7 c q x) ++ (zu_Fi_Ta_7 c r y ++ zv_Fi_Ta_7 c r y))) hX zk_Ta_copyRows zs_Ta_copyRows zL_Fi_95 (c_Ta_copyRows c (q 7) (q 8) (r 7) (r 8) 13 104 y.2.1 x.2.1 e1) rfl rfl rfl rfl rfl rfl 0 6 rfl rfl rfl d_Fi_copyFrom_8 ?_
  refine zperm (w' := (zwFF c q r y ((x.1, o1, x.2.2)))) (zpp (sq_Fi_Ta_7 c q x o1).symm (sp_Fi_Ta_7 c r y)).symm ?_
  refine g_aload_n (pc := 11) hX d_Fi_copyFrom_11 rfl 0 rfl ?_
  refine g_aload_n (pc := 12) hX d_Fi_copyFrom_12 rfl 1 rfl ?_
  refine gf_Fi_67 (pc := 13) (v := .int ((y.2.2 3))) hX 15 rfl rfl d_Fi_copyFrom_13 ?_
  refine pf_Fi_67 (pc := 16) (w2 := (zwFF c q r y ((x.1, o1, (upd x.2.2 3 ((y.2.2 3))))))) hX 6 rfl rfl (su_FF_6_3 c q r y ((x.1, o1, x.2.2)) ((y.2.2 3))) d_Fi_copyFrom_16 ?_
  refine g_aload_n (pc := 19) hX d_Fi_copyFrom_19 rfl 0 rfl ?_
  refine g_aload_n (pc := 20) hX d_Fi_copyFrom_20 rfl 1 rfl ?_
  refine gf_Fi_85 (pc := 21) (v := .int ((y.2.2 4))) hX 15 rfl rfl d_Fi_copyFrom_21 ?_
  refine pf_Fi_85 (pc := 24) (w2 := (zwFF c q r y ((x.1, o1, (upd ((upd x.2.2 3 ((y.2.2 3)))) 4 ((y.2.2 4))))))) hX 6 rfl rfl (su_FF_6_4 c q r y ((x.1, o1, (upd x.2.2 3 ((y.2.2 3))))) ((y.2.2 4))) d_Fi_copyFrom_24 ?_
  obtain rfl := Option.some.inj h
  exact g_vret (pc := 27) hX hR d_Fi_copyFrom_27)
theorem d_En_copyFrom_0 : decode zb_En_copyFrom 0 = .ok (.aload_n 0, 1) := by decide +kernel
theorem d_En_copyFrom_1 : decode zb_En_copyFrom 1 = .ok (.getfield 14, 3) := by decide +kernel
theorem d_En_copyFrom_4 : decode zb_En_copyFrom 4 = .ok (.aload_n 1, 1) := by decide +kernel
theorem d_En_copyFrom_5 : decode zb_En_copyFrom 5 = .ok (.getfield 14, 3) := by decide +kernel
theorem d_En_copyFrom_8 : decode zb_En_copyFrom 8 = .ok (.invokevirtual 126, 3) := by decide +kernel
theorem d_En_copyFrom_11 : decode zb_En_copyFrom 11 = .ok (.aload_n 0, 1) := by decide +kernel
theorem d_En_copyFrom_12 : decode zb_En_copyFrom 12 = .ok (.aload_n 1, 1) := by decide +kernel
theorem d_En_copyFrom_13 : decode zb_En_copyFrom 13 = .ok (.getfield 32, 3) := by decide +kernel
theorem d_En_copyFrom_16 : decode zb_En_copyFrom 16 = .ok (.putfield 32, 3) := by decide +kernel
theorem d_En_copyFrom_19 : decode zb_En_copyFrom 19 = .ok (.aload_n 0, 1) := by decide +kernel
theorem d_En_copyFrom_20 : decode zb_En_copyFrom 20 = .ok (.aload_n 1, 1) := by decide +kernel
theorem d_En_copyFrom_21 : decode zb_En_copyFrom 21 = .ok (.getfield 36, 3) := by decide +kernel
theorem d_En_copyFrom_24 : decode zb_En_copyFrom 24 = .ok (.putfield 36, 3) := by decide +kernel
theorem d_En_copyFrom_27 : decode zb_En_copyFrom 27 = .ok (.aload_n 0, 1) := by decide +kernel
theorem d_En_copyFrom_28 : decode zb_En_copyFrom 28 = .ok (.aload_n 1, 1) := by decide +kernel
theorem d_En_copyFrom_29 : decode zb_En_copyFrom 29 = .ok (.getfield 84, 3) := by decide +kernel
theorem d_En_copyFrom_32 : decode zb_En_copyFrom 32 = .ok (.putfield 84, 3) := by decide +kernel
theorem d_En_copyFrom_35 : decode zb_En_copyFrom 35 = .ok (.aload_n 0, 1) := by decide +kernel
theorem d_En_copyFrom_36 : decode zb_En_copyFrom 36 = .ok (.aload_n 1, 1) := by decide +kernel
theorem d_En_copyFrom_37 : decode zb_En_copyFrom 37 = .ok (.getfield 87, 3) := by decide +kernel
theorem d_En_copyFrom_40 : decode zb_En_copyFrom 40 = .ok (.putfield 87, 3) := by decide +kernel
theorem d_En_copyFrom_43 : decode zb_En_copyFrom 43 = .ok (.aload_n 0, 1) := by decide +kernel
theorem d_En_copyFrom_44 : decode zb_En_copyFrom 44 = .ok (.aload_n 1, 1) := by decide +kernel
theorem d_En_copyFrom_45 : decode zb_En_copyFrom 45 = .ok (.getfield 67, 3) := by decide +kernel
theorem d_En_copyFrom_48 : decode zb_En_copyFrom 48 = .ok (.putfield 67, 3) := by decide +kernel
theorem d_En_copyFrom_51 : decode zb_En_copyFrom 51 = .ok (.aload_n 0, 1) := by decide +kernel
theorem d_En_copyFrom_52 : decode zb_En_copyFrom 52 = .ok (.aload_n 1, 1) := by decide +kernel
theorem d_En_copyFrom_53 : decode zb_En_copyFrom 53 = .ok (.getfield 91, 3) := by decide +kernel
theorem d_En_copyFrom_56 : decode zb_En_copyFrom 56 = .ok (.putfield 91, 3) := by decide +kernel
theorem d_En_copyFrom_59 : decode zb_En_copyFrom 59 = .ok (.aload_n 0, 1) := by decide +kernel
theorem d_En_copyFrom_60 : decode zb_En_copyFrom 60 = .ok (.aload_n 1, 1) := by decide +kernel
theorem d_En_copyFrom_61 : decode zb_En_copyFrom 61 = .ok (.getfield 117, 3) := by decide +kernel
theorem d_En_copyFrom_64 : decode zb_En_copyFrom 64 = .ok (.putfield 117, 3) := by decide +kernel
theorem d_En_copyFrom_67 : decode zb_En_copyFrom 67 = .ok (.return_, 1) := by decide +kernel
def k_En_copyFrom (y : zsE) (x : zsE) : Option (zsE) := (k_Ta_copyRows 1 8 y.2.1 x.2.1).bind fun o1 => (if (y.2.2 7) = 0 ∨ (y.2.2 7) = 1 then some ((x.1, o1, (upd ((upd ((upd ((upd ((upd ((upd ((upd x.2.2 4 ((y.2.2 4)))) 5 ((y.2.2 5)))) 6 ((y.2.2 6)))) 7 ((y.2.2 7)))) 8 ((y.2.2 8)))) 9 ((y.2.2 9)))) 10 ((y.2.2 10))))) else none)
set_option maxRecDepth 20000 in
theorem c_En_copyFrom (c : zY) (q r : Nat → Nat) (y : zsE) (x : zsE) {out : zsE} (h : k_En_copyFrom y x = some out) : KM zy_En_copyFrom zb_En_copyFrom 2 none 2 c [.ref ((q 9)), .ref ((r 9))] (zwEE c q r y x) (zwEE c q r y out) none := zK_of zp_En rfl (Nat.le_of_ble_eq_true rfl) (zq_EE c q r y _ _) (fun X hX hR => by
  show Go X (zwEE c q r y x) [(0, .ref ((q 9))), (1, .ref ((r 9)))] 0 []
  rw [k_En_copyFrom] at h
  refine g_aload_n (pc := 0) hX d_En_copyFrom_0 rfl 0 rfl ?_
  refine gf_En_14 (pc := 1) (v := .ref ((q 10))) hX 9 rfl rfl d_En_copyFrom_1 ?_
  refine g_aload_n (pc := 4) hX d_En_copyFrom_4 rfl 1 rfl ?_
  refine gf_En_14 (pc := 5) (v := .ref ((r 10))) hX 21 rfl rfl d_En_copyFrom_5 ?_
  obtain ⟨o1, e1, h⟩ := zbind h
  refine zperm (zpp (sp_En_Ta_10 c q x) (sp_En_Ta_10 c r y)) ?_
  refine g_cvV (pc := 8) (w1 := []) (w2 := ((zu_En_Ta_10 c q x ++ zv_En_Ta_10 c q x) ++ (zu_En_Ta_10 c r y ++ zv_En_Ta_10 c r y))) (st := []) (w' := zwTT c (q 10) (q 11) (r 10) (r 11) 1 8 y.2.1 o1 ++ ((zu_En_Ta_10 c q x ++ zv_En_Ta_10 c q x) ++ (zu_En_Ta_10 c r y ++ zv_En_Ta_10 c r y))) hX zk_Ta_copyRows zs_Ta_copyRows zL_En_126 (c_Ta_copyRows c (q 10) (q 11) (r 10) (r 11) 1 8 y.2.1 x.2.1 e1) rfl rfl rfl rfl rfl rfl 0 6 rfl rfl rfl d_En_copyFrom_8 ?_
  refine zperm (w' := (zwEE c q r y ((x.1, o1, x.2.2)))) (zpp (sq_En_Ta_10 c q x o1).symm (sp_En_Ta_10 c r y)).symm ?_
  refine g_aload_n (pc := 11) hX d_En_copyFrom_11 rfl 0 rfl ?_
  refine g_aload_n (pc := 12) hX d_En_copyFrom_12 rfl 1 rfl ?_
  refine gf_En_32 (pc := 13) (v := .int ((y.2.2 4))) hX 21 rfl rfl d_En_copyFrom_13 ?_
  refine pf_En_32 (pc := 16) (w2 := (zwEE c q r y ((x.1, o1, (upd x.2.2 4 ((y.2.2 4))))))) hX 9 rfl rfl (su_EE_9_4 c q r y ((x.1, o1, x.2.2)) ((y.2.2 4))) d_En_copyFrom_16 ?_
  refine g_aload_n (pc := 19) hX d_En_copyFrom_19 rfl 0 rfl ?_
  refine g_aload_n (pc := 20) hX d_En_copyFrom_20 rfl 1 rfl ?_
  refine gf_En_36 (pc := 21) (v := .int ((y.2.2 5))) hX 21 rfl rfl d_En_copyFrom_21 ?_
  refine pf_En_36 (pc := 24) (w2 := (zwEE c q r y ((x.1, o1, (upd ((upd x.2.2 4 ((y.2.2 4)))) 5 ((y.2.2 5))))))) hX 9 rfl rfl (su_EE_9_5 c q r y ((x.1, o1, (upd x.2.2 4 ((y.2.2 4))))) ((y.2.2 5))) d_En_copyFrom_24 ?_
  refine g_aload_n (pc := 27) hX d_En_copyFrom_27 rfl 0 rfl ?_
  refine g_aload_n (pc := 28) hX d_En_copyFrom_28 rfl 1 rfl ?_
  refine gf_En_84 (pc := 29) (v := .int ((y.2.2 6))) hX 21 rfl rfl d_En_copyFrom_29 ?_
  refine pf_En_84 (pc := 32) (w2 := (zwEE c q r y ((x.1, o1, (upd ((upd ((upd x.2.2 4 ((y.2.2 4)))) 5 ((y.2.2 5)))) 6 ((y.2.2 6))))))) hX 9 rfl rfl (su_EE_9_6 c q r y ((x.1, o1, (upd ((upd x.2.2 4 ((y.2.2 4)))) 5 ((y.2.2 5))))) ((y.2.2 6))) d_En_copyFrom_32 ?_
  refine g_aload_n (pc := 35) hX d_En_copyFrom_35 rfl 0 rfl ?_
  refine g_aload_n (pc := 36) hX d_En_copyFrom_36 rfl 1 rfl ?_
  refine gf_En_87 (pc := 37) (v := .int ((y.2.2 7))) hX 21 rfl rfl d_En_copyFrom_37 ?_
  obtain ⟨hb2, h⟩ := zifb h
  refine pf_En_87 (pc := 40) (w2 := (zwEE c q r y ((x.1, o1, (upd ((upd ((upd ((upd x.2.2 4 ((y.2.2 4)))) 5 ((y.2.2 5)))) 6 ((y.2.2 6)))) 7 ((y.2.2 7))))))) hX hb2 9 rfl rfl (su_EE_9_7 c q r y ((x.1, o1, (upd ((upd ((upd x.2.2 4 ((y.2.2 4)))) 5 ((y.2.2 5)))) 6 ((y.2.2 6))))) ((y.2.2 7))) d_En_copyFrom_40 ?_
  refine g_aload_n (pc := 43) hX d_En_copyFrom_43 rfl 0 rfl ?_
  refine g_aload_n (pc := 44) hX d_En_copyFrom_44 rfl 1 rfl ?_
  refine gf_En_67 (pc := 45) (v := .int ((y.2.2 8))) hX 21 rfl rfl d_En_copyFrom_45 ?_
  refine pf_En_67 (pc := 48) (w2 := (zwEE c q r y ((x.1, o1, (upd ((upd ((upd ((upd ((upd x.2.2 4 ((y.2.2 4)))) 5 ((y.2.2 5)))) 6 ((y.2.2 6)))) 7 ((y.2.2 7)))) 8 ((y.2.2 8))))))) hX 9 rfl rfl (su_EE_9_8 c q r y ((x.1, o1, (upd ((upd ((upd ((upd x.2.2 4 ((y.2.2 4)))) 5 ((y.2.2 5)))) 6 ((y.2.2 6)))) 7 ((y.2.2 7))))) ((y.2.2 8))) d_En_copyFrom_48 ?_
  refine g_aload_n (pc := 51) hX d_En_copyFrom_51 rfl 0 rfl ?_
  refine g_aload_n (pc := 52) hX d_En_copyFrom_52 rfl 1 rfl ?_
  refine gf_En_91 (pc := 53) (v := .int ((y.2.2 9))) hX 21 rfl rfl d_En_copyFrom_53 ?_
  refine pf_En_91 (pc := 56) (w2 := (zwEE c q r y ((x.1, o1, (upd ((upd ((upd ((upd ((upd ((upd x.2.2 4 ((y.2.2 4)))) 5 ((y.2.2 5)))) 6 ((y.2.2 6)))) 7 ((y.2.2 7)))) 8 ((y.2.2 8)))) 9 ((y.2.2 9))))))) hX 9 rfl rfl (su_EE_9_9 c q r y ((x.1, o1, (upd ((upd ((upd ((upd ((upd x.2.2 4 ((y.2.2 4)))) 5 ((y.2.2 5)))) 6 ((y.2.2 6)))) 7 ((y.2.2 7)))) 8 ((y.2.2 8))))) ((y.2.2 9))) d_En_copyFrom_56 ?_
  refine g_aload_n (pc := 59) hX d_En_copyFrom_59 rfl 0 rfl ?_
  refine g_aload_n (pc := 60) hX d_En_copyFrom_60 rfl 1 rfl ?_
  refine gf_En_117 (pc := 61) (v := .int ((y.2.2 10))) hX 21 rfl rfl d_En_copyFrom_61 ?_
  refine pf_En_117 (pc := 64) (w2 := (zwEE c q r y ((x.1, o1, (upd ((upd ((upd ((upd ((upd ((upd ((upd x.2.2 4 ((y.2.2 4)))) 5 ((y.2.2 5)))) 6 ((y.2.2 6)))) 7 ((y.2.2 7)))) 8 ((y.2.2 8)))) 9 ((y.2.2 9)))) 10 ((y.2.2 10))))))) hX 9 rfl rfl (su_EE_9_10 c q r y ((x.1, o1, (upd ((upd ((upd ((upd ((upd ((upd x.2.2 4 ((y.2.2 4)))) 5 ((y.2.2 5)))) 6 ((y.2.2 6)))) 7 ((y.2.2 7)))) 8 ((y.2.2 8)))) 9 ((y.2.2 9))))) ((y.2.2 10))) d_En_copyFrom_64 ?_
  obtain rfl := Option.some.inj h
  exact g_vret (pc := 67) hX hR d_En_copyFrom_67)
theorem d_St_become_0 : decode zb_St_become 0 = .ok (.aload_n 0, 1) := by decide +kernel
theorem d_St_become_1 : decode zb_St_become 1 = .ok (.getfield 38, 3) := by decide +kernel
theorem d_St_become_4 : decode zb_St_become 4 = .ok (.aload_n 1, 1) := by decide +kernel
theorem d_St_become_5 : decode zb_St_become 5 = .ok (.getfield 38, 3) := by decide +kernel
theorem d_St_become_8 : decode zb_St_become 8 = .ok (.invokevirtual 67, 3) := by decide +kernel
theorem d_St_become_11 : decode zb_St_become 11 = .ok (.aload_n 0, 1) := by decide +kernel
theorem d_St_become_12 : decode zb_St_become 12 = .ok (.getfield 42, 3) := by decide +kernel
theorem d_St_become_15 : decode zb_St_become 15 = .ok (.aload_n 1, 1) := by decide +kernel
theorem d_St_become_16 : decode zb_St_become 16 = .ok (.getfield 42, 3) := by decide +kernel
theorem d_St_become_19 : decode zb_St_become 19 = .ok (.invokevirtual 70, 3) := by decide +kernel
theorem d_St_become_22 : decode zb_St_become 22 = .ok (.aload_n 0, 1) := by decide +kernel
theorem d_St_become_23 : decode zb_St_become 23 = .ok (.getfield 46, 3) := by decide +kernel
theorem d_St_become_26 : decode zb_St_become 26 = .ok (.aload_n 1, 1) := by decide +kernel
theorem d_St_become_27 : decode zb_St_become 27 = .ok (.getfield 46, 3) := by decide +kernel
theorem d_St_become_30 : decode zb_St_become 30 = .ok (.invokevirtual 73, 3) := by decide +kernel
theorem d_St_become_33 : decode zb_St_become 33 = .ok (.aload_n 0, 1) := by decide +kernel
theorem d_St_become_34 : decode zb_St_become 34 = .ok (.getfield 55, 3) := by decide +kernel
theorem d_St_become_37 : decode zb_St_become 37 = .ok (.aload_n 1, 1) := by decide +kernel
theorem d_St_become_38 : decode zb_St_become 38 = .ok (.getfield 55, 3) := by decide +kernel
theorem d_St_become_41 : decode zb_St_become 41 = .ok (.invokevirtual 76, 3) := by decide +kernel
theorem d_St_become_44 : decode zb_St_become 44 = .ok (.aload_n 0, 1) := by decide +kernel
theorem d_St_become_45 : decode zb_St_become 45 = .ok (.getfield 14, 3) := by decide +kernel
theorem d_St_become_48 : decode zb_St_become 48 = .ok (.aload_n 1, 1) := by decide +kernel
theorem d_St_become_49 : decode zb_St_become 49 = .ok (.getfield 14, 3) := by decide +kernel
theorem d_St_become_52 : decode zb_St_become 52 = .ok (.invokevirtual 79, 3) := by decide +kernel
theorem d_St_become_55 : decode zb_St_become 55 = .ok (.aload_n 0, 1) := by decide +kernel
theorem d_St_become_56 : decode zb_St_become 56 = .ok (.getfield 22, 3) := by decide +kernel
theorem d_St_become_59 : decode zb_St_become 59 = .ok (.aload_n 1, 1) := by decide +kernel
theorem d_St_become_60 : decode zb_St_become 60 = .ok (.getfield 22, 3) := by decide +kernel
theorem d_St_become_63 : decode zb_St_become 63 = .ok (.invokevirtual 79, 3) := by decide +kernel
theorem d_St_become_66 : decode zb_St_become 66 = .ok (.aload_n 0, 1) := by decide +kernel
theorem d_St_become_67 : decode zb_St_become 67 = .ok (.aload_n 1, 1) := by decide +kernel
theorem d_St_become_68 : decode zb_St_become 68 = .ok (.getfield 83, 3) := by decide +kernel
theorem d_St_become_71 : decode zb_St_become 71 = .ok (.putfield 83, 3) := by decide +kernel
theorem d_St_become_74 : decode zb_St_become 74 = .ok (.return_, 1) := by decide +kernel
def k_St_become (y : zsS) (x : zsS) : Option (zsS) := (k_Jo_copyFrom y.1.1.1.1 x.1.1.1.1).bind fun o1 => (k_Co_copyFrom y.1.1.1 ((o1, x.1.1.1.2.1, x.1.1.1.2.2))).bind fun o2 => (k_Fi_copyFrom y.1.1 ((o2, x.1.1.2.1, x.1.1.2.2))).bind fun o3 => (k_En_copyFrom y.1 ((o3, x.1.2.1, x.1.2.2))).bind fun o4 => (k_Ta_copyRows 1 100 y.2.1 x.2.1).bind fun o5 => (k_Ta_copyRows 25 100 y.2.2.1 x.2.2.1).bind fun o6 => some ((o4, o5, o6, y.2.2.2))
set_option maxRecDepth 20000 in
theorem c_St_become (c : zY) (q r : Nat → Nat) (y : zsS) (x : zsS) {out : zsS} (h : k_St_become y x = some out) : KM zy_St_become zb_St_become 2 none 3 c [.ref ((q 12)), .ref ((r 12))] (zwSS c q r y x) (zwSS c q r y out) none := zK_of zp_St rfl (Nat.le_of_ble_eq_true rfl) (zq_SS c q r y _ _) (fun X hX hR => by
  show Go X (zwSS c q r y x) [(0, .ref ((q 12))), (1, .ref ((r 12)))] 0 []
  rw [k_St_become] at h
  refine g_aload_n (pc := 0) hX d_St_become_0 rfl 0 rfl ?_
  refine gf_St_38 (pc := 1) (v := .ref ((q 0))) hX 12 rfl rfl d_St_become_1 ?_
  refine g_aload_n (pc := 4) hX d_St_become_4 rfl 1 rfl ?_
  refine gf_St_38 (pc := 5) (v := .ref ((r 0))) hX 29 rfl rfl d_St_become_5 ?_
  obtain ⟨o1, e1, h⟩ := zbind h
  refine zperm (zpp (sp_St_Jo_0 c q x) (sp_St_Jo_0 c r y)) ?_
  refine g_cvV (pc := 8) (w1 := []) (w2 := ((zu_St_Jo_0 c q x ++ zv_St_Jo_0 c q x) ++ (zu_St_Jo_0 c r y ++ zv_St_Jo_0 c r y))) (st := []) (w' := zwJJ c q r y.1.1.1.1 o1 ++ ((zu_St_Jo_0 c q x ++ zv_St_Jo_0 c q x) ++ (zu_St_Jo_0 c r y ++ zv_St_Jo_0 c r y))) hX zk_Jo_copyFrom zs_Jo_copyFrom zL_St_67 (c_Jo_copyFrom c q r y.1.1.1.1 x.1.1.1.1 e1) rfl rfl rfl rfl rfl rfl 0 4 rfl rfl rfl d_St_become_8 ?_
  refine zperm (w' := (zwSS c q r y (((((o1, x.1.1.1.2.1, x.1.1.1.2.2), x.1.1.2.1, x.1.1.2.2), x.1.2.1, x.1.2.2), x.2.1, x.2.2.1, x.2.2.2)))) (zpp (sq_St_Jo_0 c q x o1).symm (sp_St_Jo_0 c r y)).symm ?_
  refine g_aload_n (pc := 11) hX d_St_become_11 rfl 0 rfl ?_
  refine gf_St_42 (pc := 12) (v := .ref ((q 2))) hX 12 rfl rfl d_St_become_12 ?_
  refine g_aload_n (pc := 15) hX d_St_become_15 rfl 1 rfl ?_
  refine gf_St_42 (pc := 16) (v := .ref ((r 2))) hX 29 rfl rfl d_St_become_16 ?_
  obtain ⟨o2, e2, h⟩ := zbind h
  refine zperm (zpp (sp_St_Co_0 c q (((((o1, x.1.1.1.2.1, x.1.1.1.2.2), x.1.1.2.1, x.1.1.2.2), x.1.2.1, x.1.2.2), x.2.1, x.2.2.1, x.2.2.2))) (sp_St_Co_0 c r y)) ?_
  refine g_cvV (pc := 19) (w1 := []) (w2 := ((zu_St_Co_0 c q (((((o1, x.1.1.1.2.1, x.1.1.1.2.2), x.1.1.2.1, x.1.1.2.2), x.1.2.1, x.1.2.2), x.2.1, x.2.2.1, x.2.2.2)) ++ zv_St_Co_0 c q (((((o1, x.1.1.1.2.1, x.1.1.1.2.2), x.1.1.2.1, x.1.1.2.2), x.1.2.1, x.1.2.2), x.2.1, x.2.2.1, x.2.2.2))) ++ (zu_St_Co_0 c r y ++ zv_St_Co_0 c r y))) (st := []) (w' := zwCC c q r y.1.1.1 o2 ++ ((zu_St_Co_0 c q (((((o1, x.1.1.1.2.1, x.1.1.1.2.2), x.1.1.2.1, x.1.1.2.2), x.1.2.1, x.1.2.2), x.2.1, x.2.2.1, x.2.2.2)) ++ zv_St_Co_0 c q (((((o1, x.1.1.1.2.1, x.1.1.1.2.2), x.1.1.2.1, x.1.1.2.2), x.1.2.1, x.1.2.2), x.2.1, x.2.2.1, x.2.2.2))) ++ (zu_St_Co_0 c r y ++ zv_St_Co_0 c r y))) hX zk_Co_copyFrom zs_Co_copyFrom zL_St_70 (c_Co_copyFrom c q r y.1.1.1 ((o1, x.1.1.1.2.1, x.1.1.1.2.2)) e2) rfl rfl rfl rfl rfl rfl 2 1 rfl rfl rfl d_St_become_19 ?_
  refine zperm (w' := (zwSS c q r y ((((o2, x.1.1.2.1, x.1.1.2.2), x.1.2.1, x.1.2.2), x.2.1, x.2.2.1, x.2.2.2)))) (zpp (sq_St_Co_0 c q (((((o1, x.1.1.1.2.1, x.1.1.1.2.2), x.1.1.2.1, x.1.1.2.2), x.1.2.1, x.1.2.2), x.2.1, x.2.2.1, x.2.2.2)) o2).symm (sp_St_Co_0 c r y)).symm ?_
  refine g_aload_n (pc := 22) hX d_St_become_22 rfl 0 rfl ?_
  refine gf_St_46 (pc := 23) (v := .ref ((q 6))) hX 12 rfl rfl d_St_become_23 ?_
  refine g_aload_n (pc := 26) hX d_St_become_26 rfl 1 rfl ?_
  refine gf_St_46 (pc := 27) (v := .ref ((r 6))) hX 29 rfl rfl d_St_become_27 ?_
  obtain ⟨o3, e3, h⟩ := zbind h
  refine zperm (zpp (sp_St_Fi_0 c q ((((o2, x.1.1.2.1, x.1.1.2.2), x.1.2.1, x.1.2.2), x.2.1, x.2.2.1, x.2.2.2))) (sp_St_Fi_0 c r y)) ?_
  refine g_cvV (pc := 30) (w1 := []) (w2 := ((zu_St_Fi_0 c q ((((o2, x.1.1.2.1, x.1.1.2.2), x.1.2.1, x.1.2.2), x.2.1, x.2.2.1, x.2.2.2)) ++ zv_St_Fi_0 c q ((((o2, x.1.1.2.1, x.1.1.2.2), x.1.2.1, x.1.2.2), x.2.1, x.2.2.1, x.2.2.2))) ++ (zu_St_Fi_0 c r y ++ zv_St_Fi_0 c r y))) (st := []) (w' := zwFF c q r y.1.1 o3 ++ ((zu_St_Fi_0 c q ((((o2, x.1.1.2.1, x.1.1.2.2), x.1.2.1, x.1.2.2), x.2.1, x.2.2.1, x.2.2.2)) ++ zv_St_Fi_0 c q ((((o2, x.1.1.2.1, x.1.1.2.2), x.1.2.1, x.1.2.2), x.2.1, x.2.2.1, x.2.2.2))) ++ (zu_St_Fi_0 c r y ++ zv_St_Fi_0 c r y))) hX zk_Fi_copyFrom zs_Fi_copyFrom zL_St_73 (c_Fi_copyFrom c q r y.1.1 ((o2, x.1.1.2.1, x.1.1.2.2)) e3) rfl rfl rfl rfl rfl rfl 6 3 rfl rfl rfl d_St_become_30 ?_
  refine zperm (w' := (zwSS c q r y (((o3, x.1.2.1, x.1.2.2), x.2.1, x.2.2.1, x.2.2.2)))) (zpp (sq_St_Fi_0 c q ((((o2, x.1.1.2.1, x.1.1.2.2), x.1.2.1, x.1.2.2), x.2.1, x.2.2.1, x.2.2.2)) o3).symm (sp_St_Fi_0 c r y)).symm ?_
  refine g_aload_n (pc := 33) hX d_St_become_33 rfl 0 rfl ?_
  refine gf_St_55 (pc := 34) (v := .ref ((q 9))) hX 12 rfl rfl d_St_become_34 ?_
  refine g_aload_n (pc := 37) hX d_St_become_37 rfl 1 rfl ?_
  refine gf_St_55 (pc := 38) (v := .ref ((r 9))) hX 29 rfl rfl d_St_become_38 ?_
  obtain ⟨o4, e4, h⟩ := zbind h
  refine zperm (zpp (sp_St_En_0 c q (((o3, x.1.2.1, x.1.2.2), x.2.1, x.2.2.1, x.2.2.2))) (sp_St_En_0 c r y)) ?_
  refine g_cvV (pc := 41) (w1 := []) (w2 := ((zu_St_En_0 c q (((o3, x.1.2.1, x.1.2.2), x.2.1, x.2.2.1, x.2.2.2)) ++ zv_St_En_0 c q (((o3, x.1.2.1, x.1.2.2), x.2.1, x.2.2.1, x.2.2.2))) ++ (zu_St_En_0 c r y ++ zv_St_En_0 c r y))) (st := []) (w' := zwEE c q r y.1 o4 ++ ((zu_St_En_0 c q (((o3, x.1.2.1, x.1.2.2), x.2.1, x.2.2.1, x.2.2.2)) ++ zv_St_En_0 c q (((o3, x.1.2.1, x.1.2.2), x.2.1, x.2.2.1, x.2.2.2))) ++ (zu_St_En_0 c r y ++ zv_St_En_0 c r y))) hX zk_En_copyFrom zs_En_copyFrom zL_St_76 (c_En_copyFrom c q r y.1 ((o3, x.1.2.1, x.1.2.2)) e4) rfl rfl rfl rfl rfl rfl 9 2 rfl rfl rfl d_St_become_41 ?_
  refine zperm (w' := (zwSS c q r y ((o4, x.2.1, x.2.2.1, x.2.2.2)))) (zpp (sq_St_En_0 c q (((o3, x.1.2.1, x.1.2.2), x.2.1, x.2.2.1, x.2.2.2)) o4).symm (sp_St_En_0 c r y)).symm ?_
  refine g_aload_n (pc := 44) hX d_St_become_44 rfl 0 rfl ?_
  refine gf_St_14 (pc := 45) (v := .ref ((q 13))) hX 12 rfl rfl d_St_become_45 ?_
  refine g_aload_n (pc := 48) hX d_St_become_48 rfl 1 rfl ?_
  refine gf_St_14 (pc := 49) (v := .ref ((r 13))) hX 29 rfl rfl d_St_become_49 ?_
  obtain ⟨o5, e5, h⟩ := zbind h
  refine zperm (zpp (sp_St_Ta_13 c q ((o4, x.2.1, x.2.2.1, x.2.2.2))) (sp_St_Ta_13 c r y)) ?_
  refine g_cvV (pc := 52) (w1 := []) (w2 := ((zu_St_Ta_13 c q ((o4, x.2.1, x.2.2.1, x.2.2.2)) ++ zv_St_Ta_13 c q ((o4, x.2.1, x.2.2.1, x.2.2.2))) ++ (zu_St_Ta_13 c r y ++ zv_St_Ta_13 c r y))) (st := []) (w' := zwTT c (q 13) (q 14) (r 13) (r 14) 1 100 y.2.1 o5 ++ ((zu_St_Ta_13 c q ((o4, x.2.1, x.2.2.1, x.2.2.2)) ++ zv_St_Ta_13 c q ((o4, x.2.1, x.2.2.1, x.2.2.2))) ++ (zu_St_Ta_13 c r y ++ zv_St_Ta_13 c r y))) hX zk_Ta_copyRows zs_Ta_copyRows zL_St_79 (c_Ta_copyRows c (q 13) (q 14) (r 13) (r 14) 1 100 y.2.1 x.2.1 e5) rfl rfl rfl rfl rfl rfl 0 6 rfl rfl rfl d_St_become_52 ?_
  refine zperm (w' := (zwSS c q r y ((o4, o5, x.2.2.1, x.2.2.2)))) (zpp (sq_St_Ta_13 c q ((o4, x.2.1, x.2.2.1, x.2.2.2)) o5).symm (sp_St_Ta_13 c r y)).symm ?_
  refine g_aload_n (pc := 55) hX d_St_become_55 rfl 0 rfl ?_
  refine gf_St_22 (pc := 56) (v := .ref ((q 15))) hX 12 rfl rfl d_St_become_56 ?_
  refine g_aload_n (pc := 59) hX d_St_become_59 rfl 1 rfl ?_
  refine gf_St_22 (pc := 60) (v := .ref ((r 15))) hX 29 rfl rfl d_St_become_60 ?_
  obtain ⟨o6, e6, h⟩ := zbind h
  refine zperm (zpp (sp_St_Ta_15 c q ((o4, o5, x.2.2.1, x.2.2.2))) (sp_St_Ta_15 c r y)) ?_
  refine g_cvV (pc := 63) (w1 := []) (w2 := ((zu_St_Ta_15 c q ((o4, o5, x.2.2.1, x.2.2.2)) ++ zv_St_Ta_15 c q ((o4, o5, x.2.2.1, x.2.2.2))) ++ (zu_St_Ta_15 c r y ++ zv_St_Ta_15 c r y))) (st := []) (w' := zwTT c (q 15) (q 16) (r 15) (r 16) 25 100 y.2.2.1 o6 ++ ((zu_St_Ta_15 c q ((o4, o5, x.2.2.1, x.2.2.2)) ++ zv_St_Ta_15 c q ((o4, o5, x.2.2.1, x.2.2.2))) ++ (zu_St_Ta_15 c r y ++ zv_St_Ta_15 c r y))) hX zk_Ta_copyRows zs_Ta_copyRows zL_St_79 (c_Ta_copyRows c (q 15) (q 16) (r 15) (r 16) 25 100 y.2.2.1 x.2.2.1 e6) rfl rfl rfl rfl rfl rfl 0 6 rfl rfl rfl d_St_become_63 ?_
  refine zperm (w' := (zwSS c q r y ((o4, o5, o6, x.2.2.2)))) (zpp (sq_St_Ta_15 c q ((o4, o5, x.2.2.1, x.2.2.2)) o6).symm (sp_St_Ta_15 c r y)).symm ?_
  refine g_aload_n (pc := 66) hX d_St_become_66 rfl 0 rfl ?_
  refine g_aload_n (pc := 67) hX d_St_become_67 rfl 1 rfl ?_
  refine gf_St_83 (pc := 68) (v := .int y.2.2.2) hX 29 rfl rfl d_St_become_68 ?_
  refine pf_St_83 (pc := 71) (w2 := (zwSS c q r y ((o4, o5, o6, y.2.2.2)))) hX 12 rfl rfl (su_SS_12_6 c q r y ((o4, o5, o6, x.2.2.2)) y.2.2.2) d_St_become_71 ?_
  obtain rfl := Option.some.inj h
  exact g_vret (pc := 74) hX hR d_St_become_74)
