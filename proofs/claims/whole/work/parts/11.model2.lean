theorem d_Mo_takes_0 : decode zb_Mo_takes 0 = .ok (.aload_n 0, 1) := by decide +kernel
theorem d_Mo_takes_1 : decode zb_Mo_takes 1 = .ok (.getfield 231, 3) := by decide +kernel
theorem d_Mo_takes_4 : decode zb_Mo_takes 4 = .ok (.aload_n 0, 1) := by decide +kernel
theorem d_Mo_takes_5 : decode zb_Mo_takes 5 = .ok (.getfield 224, 3) := by decide +kernel
theorem d_Mo_takes_8 : decode zb_Mo_takes 8 = .ok (.if_icmp .eq 26, 3) := by decide +kernel
theorem d_Mo_takes_11 : decode zb_Mo_takes 11 = .ok (.aload_n 0, 1) := by decide +kernel
theorem d_Mo_takes_12 : decode zb_Mo_takes 12 = .ok (.getfield 65, 3) := by decide +kernel
theorem d_Mo_takes_15 : decode zb_Mo_takes 15 = .ok (.aload_n 0, 1) := by decide +kernel
theorem d_Mo_takes_16 : decode zb_Mo_takes 16 = .ok (.getfield 231, 3) := by decide +kernel
theorem d_Mo_takes_19 : decode zb_Mo_takes 19 = .ok (.iaload, 1) := by decide +kernel
theorem d_Mo_takes_20 : decode zb_Mo_takes 20 = .ok (.bipush 48, 2) := by decide +kernel
theorem d_Mo_takes_22 : decode zb_Mo_takes 22 = .ok (.iload_n 2, 1) := by decide +kernel
theorem d_Mo_takes_23 : decode zb_Mo_takes 23 = .ok (.iadd, 1) := by decide +kernel
theorem d_Mo_takes_24 : decode zb_Mo_takes 24 = .ok (.bipush 48, 2) := by decide +kernel
theorem d_Mo_takes_26 : decode zb_Mo_takes 26 = .ok (.iload_n 3, 1) := by decide +kernel
theorem d_Mo_takes_27 : decode zb_Mo_takes 27 = .ok (.iadd, 1) := by decide +kernel
theorem d_Mo_takes_28 : decode zb_Mo_takes 28 = .ok (.invokestatic 84, 3) := by decide +kernel
theorem d_Mo_takes_31 : decode zb_Mo_takes 31 = .ok (.ifCond .ne 5, 3) := by decide +kernel
theorem d_Mo_takes_34 : decode zb_Mo_takes 34 = .ok (.iconst 0, 1) := by decide +kernel
theorem d_Mo_takes_35 : decode zb_Mo_takes 35 = .ok (.ireturn, 1) := by decide +kernel
theorem d_Mo_takes_36 : decode zb_Mo_takes 36 = .ok (.aload_n 0, 1) := by decide +kernel
theorem d_Mo_takes_37 : decode zb_Mo_takes 37 = .ok (.getfield 68, 3) := by decide +kernel
theorem d_Mo_takes_40 : decode zb_Mo_takes 40 = .ok (.iload_n 1, 1) := by decide +kernel
theorem d_Mo_takes_41 : decode zb_Mo_takes 41 = .ok (.aload_n 0, 1) := by decide +kernel
theorem d_Mo_takes_42 : decode zb_Mo_takes 42 = .ok (.getfield 65, 3) := by decide +kernel
theorem d_Mo_takes_45 : decode zb_Mo_takes 45 = .ok (.aload_n 0, 1) := by decide +kernel
theorem d_Mo_takes_46 : decode zb_Mo_takes 46 = .ok (.getfield 231, 3) := by decide +kernel
theorem d_Mo_takes_49 : decode zb_Mo_takes 49 = .ok (.iaload, 1) := by decide +kernel
theorem d_Mo_takes_50 : decode zb_Mo_takes 50 = .ok (.bipush 48, 2) := by decide +kernel
theorem d_Mo_takes_52 : decode zb_Mo_takes 52 = .ok (.isub, 1) := by decide +kernel
theorem d_Mo_takes_53 : decode zb_Mo_takes 53 = .ok (.iastore, 1) := by decide +kernel
theorem d_Mo_takes_54 : decode zb_Mo_takes 54 = .ok (.aload_n 0, 1) := by decide +kernel
theorem d_Mo_takes_55 : decode zb_Mo_takes 55 = .ok (.dup, 1) := by decide +kernel
theorem d_Mo_takes_56 : decode zb_Mo_takes 56 = .ok (.getfield 231, 3) := by decide +kernel
theorem d_Mo_takes_59 : decode zb_Mo_takes 59 = .ok (.iconst 1, 1) := by decide +kernel
theorem d_Mo_takes_60 : decode zb_Mo_takes 60 = .ok (.iadd, 1) := by decide +kernel
theorem d_Mo_takes_61 : decode zb_Mo_takes 61 = .ok (.putfield 231, 3) := by decide +kernel
theorem d_Mo_takes_64 : decode zb_Mo_takes 64 = .ok (.iconst 1, 1) := by decide +kernel
theorem d_Mo_takes_65 : decode zb_Mo_takes 65 = .ok (.ireturn, 1) := by decide +kernel
def k_Mo_takes (x : zsM) (l1 : Int32) (l2 : Int32) (l3 : Int32) : Option (Int32 × zsM) := (if (x.1 37) = (x.1 36) then some ((0 : Int32), x) else (if zOut ((x.1 37)) 40 then none else (k_Mo_isBetween ((((x.2 34)) ((x.1 37)).toNatClampNeg)) (((48 : Int32) + l2)) (((48 : Int32) + l3))).bind fun o2 => (if o2 = 0 then some ((0 : Int32), x) else (if zOut ((x.1 37)) 40 then none else (if zOut l1 25 then none else some ((1 : Int32), ((upd x.1 37 (((x.1 37) + (1 : Int32)))), (va_up x.2 35 (upd ((x.2 35)) l1.toNatClampNeg (((((x.2 34)) ((x.1 37)).toNatClampNeg) - (48 : Int32))))))))))))
set_option maxRecDepth 20000 in
theorem c_Mo_takes (c : zY) (q : Nat → Nat) (x : zsM) (l1 : Int32) (l2 : Int32) (l3 : Int32) {out : Int32 × zsM} (h : k_Mo_takes x l1 l2 l3 = some out) : KM zy_Mo_takes zb_Mo_takes 4 (some .boolean) 1 c [.ref ((q 0)), .int l1, .int l2, .int l3] (zwM c q x) (zwM c q out.2) (some (.int out.1)) := zK_of zp_Mo rfl (Nat.le_of_ble_eq_true rfl) (zq_Mo c q _ _) (fun X hX hR => by
  show Go X (zwM c q x) [(0, .ref ((q 0))), (1, .int l1), (2, .int l2), (3, .int l3)] 0 []
  rw [k_Mo_takes] at h
  refine g_aload_n (pc := 0) hX d_Mo_takes_0 rfl 0 rfl ?_
  refine gf_Mo_231 (pc := 1) (v := .int ((x.1 37))) hX 0 rfl rfl d_Mo_takes_1 ?_
  refine g_aload_n (pc := 4) hX d_Mo_takes_4 rfl 0 rfl ?_
  refine gf_Mo_224 (pc := 5) (v := .int ((x.1 36))) hX 0 rfl rfl d_Mo_takes_5 ?_
  refine g_icmp_eq (pc := 8) (tgt := 34) hX d_Mo_takes_8 (by decide) h (fun c1 h => ?_) (fun c1 h => ?_)
  · refine g_iconst (pc := 34) hX d_Mo_takes_34 zc_0 ?_
    obtain rfl := Option.some.inj h
    exact g_zret (pc := 35) hX hR (Or.inl rfl) d_Mo_takes_35
  · refine g_aload_n (pc := 11) hX d_Mo_takes_11 rfl 0 rfl ?_
    refine gf_Mo_65 (pc := 12) (v := .ref ((q 18))) hX 0 rfl rfl d_Mo_takes_12 ?_
    refine g_aload_n (pc := 15) hX d_Mo_takes_15 rfl 0 rfl ?_
    refine gf_Mo_231 (pc := 16) (v := .int ((x.1 37))) hX 0 rfl rfl d_Mo_takes_16 ?_
    refine g_iald (pc := 19) (f := (x.2 34)) hX 18 rfl h d_Mo_takes_19 (fun h => ?_)
    refine g_bipush (pc := 20) hX d_Mo_takes_20 ze_48 ?_
    refine g_iload_n (pc := 22) hX d_Mo_takes_22 rfl 2 rfl ?_
    refine g_iadd (pc := 23) hX d_Mo_takes_23 ?_
    refine g_bipush (pc := 24) hX d_Mo_takes_24 ze_48 ?_
    refine g_iload_n (pc := 26) hX d_Mo_takes_26 rfl 3 rfl ?_
    refine g_iadd (pc := 27) hX d_Mo_takes_27 ?_
    obtain ⟨o2, e2, h⟩ := zbind h
    refine g_csI (pc := 28) (st := []) hX zk_Mo_isBetween zL_Mo_84 (c_Mo_isBetween c ((((x.2 34)) ((x.1 37)).toNatClampNeg)) (((48 : Int32) + l2)) (((48 : Int32) + l3)) e2) rfl rfl rfl rfl rfl d_Mo_takes_28 ?_
    refine g_if_ne (pc := 31) (tgt := 36) hX d_Mo_takes_31 (by decide) h (fun c3 h => ?_) (fun c3 h => ?_)
    · refine g_aload_n (pc := 36) hX d_Mo_takes_36 rfl 0 rfl ?_
      refine gf_Mo_68 (pc := 37) (v := .ref ((q 19))) hX 0 rfl rfl d_Mo_takes_37 ?_
      refine g_iload_n (pc := 40) hX d_Mo_takes_40 rfl 1 rfl ?_
      refine g_aload_n (pc := 41) hX d_Mo_takes_41 rfl 0 rfl ?_
      refine gf_Mo_65 (pc := 42) (v := .ref ((q 18))) hX 0 rfl rfl d_Mo_takes_42 ?_
      refine g_aload_n (pc := 45) hX d_Mo_takes_45 rfl 0 rfl ?_
      refine gf_Mo_231 (pc := 46) (v := .int ((x.1 37))) hX 0 rfl rfl d_Mo_takes_46 ?_
      refine g_iald (pc := 49) (f := (x.2 34)) hX 18 rfl h d_Mo_takes_49 (fun h => ?_)
      refine g_bipush (pc := 50) hX d_Mo_takes_50 ze_48 ?_
      refine g_isub (pc := 52) hX d_Mo_takes_52 ?_
      refine g_iast (pc := 53) (f := (x.2 35)) (w' := (zwM c q ((x.1, (va_up x.2 35 (upd ((x.2 35)) l1.toNatClampNeg (((((x.2 34)) ((x.1 37)).toNatClampNeg) - (48 : Int32))))))))) hX 19 rfl h (sa_Mo_19 c q x (upd ((x.2 35)) l1.toNatClampNeg (((((x.2 34)) ((x.1 37)).toNatClampNeg) - (48 : Int32))))) d_Mo_takes_53 (fun h => ?_)
      refine g_aload_n (pc := 54) hX d_Mo_takes_54 rfl 0 rfl ?_
      refine g_dup (pc := 55) hX d_Mo_takes_55 rfl ?_
      refine gf_Mo_231 (pc := 56) (v := .int ((x.1 37))) hX 0 rfl rfl d_Mo_takes_56 ?_
      refine g_iconst (pc := 59) hX d_Mo_takes_59 zc_1 ?_
      refine g_iadd (pc := 60) hX d_Mo_takes_60 ?_
      refine pf_Mo_231 (pc := 61) (w2 := (zwM c q (((upd x.1 37 (((x.1 37) + (1 : Int32)))), (va_up x.2 35 (upd ((x.2 35)) l1.toNatClampNeg (((((x.2 34)) ((x.1 37)).toNatClampNeg) - (48 : Int32))))))))) hX 0 rfl rfl (su_Mo_0_37 c q ((x.1, (va_up x.2 35 (upd ((x.2 35)) l1.toNatClampNeg (((((x.2 34)) ((x.1 37)).toNatClampNeg) - (48 : Int32))))))) (((x.1 37) + (1 : Int32)))) d_Mo_takes_61 ?_
      refine g_iconst (pc := 64) hX d_Mo_takes_64 zc_1 ?_
      obtain rfl := Option.some.inj h
      exact g_zret (pc := 65) hX hR (Or.inr rfl) d_Mo_takes_65
    · refine g_iconst (pc := 34) hX d_Mo_takes_34 zc_0 ?_
      obtain rfl := Option.some.inj h
      exact g_zret (pc := 35) hX hR (Or.inl rfl) d_Mo_takes_35)
theorem d_Mo_takesNumber_0 : decode zb_Mo_takesNumber 0 = .ok (.aload_n 0, 1) := by decide +kernel
theorem d_Mo_takesNumber_1 : decode zb_Mo_takesNumber 1 = .ok (.iload_n 1, 1) := by decide +kernel
theorem d_Mo_takesNumber_2 : decode zb_Mo_takesNumber 2 = .ok (.iconst 0, 1) := by decide +kernel
theorem d_Mo_takesNumber_3 : decode zb_Mo_takesNumber 3 = .ok (.bipush 9, 2) := by decide +kernel
theorem d_Mo_takesNumber_5 : decode zb_Mo_takesNumber 5 = .ok (.invokevirtual 234, 3) := by decide +kernel
theorem d_Mo_takesNumber_8 : decode zb_Mo_takesNumber 8 = .ok (.ifCond .ne 5, 3) := by decide +kernel
theorem d_Mo_takesNumber_11 : decode zb_Mo_takesNumber 11 = .ok (.iconst 0, 1) := by decide +kernel
theorem d_Mo_takesNumber_12 : decode zb_Mo_takesNumber 12 = .ok (.ireturn, 1) := by decide +kernel
theorem d_Mo_takesNumber_13 : decode zb_Mo_takesNumber 13 = .ok (.aload_n 0, 1) := by decide +kernel
theorem d_Mo_takesNumber_14 : decode zb_Mo_takesNumber 14 = .ok (.getfield 68, 3) := by decide +kernel
theorem d_Mo_takesNumber_17 : decode zb_Mo_takesNumber 17 = .ok (.iload_n 1, 1) := by decide +kernel
theorem d_Mo_takesNumber_18 : decode zb_Mo_takesNumber 18 = .ok (.iaload, 1) := by decide +kernel
theorem d_Mo_takesNumber_19 : decode zb_Mo_takesNumber 19 = .ok (.istore_n 2, 1) := by decide +kernel
theorem d_Mo_takesNumber_20 : decode zb_Mo_takesNumber 20 = .ok (.aload_n 0, 1) := by decide +kernel
theorem d_Mo_takesNumber_21 : decode zb_Mo_takesNumber 21 = .ok (.iload_n 1, 1) := by decide +kernel
theorem d_Mo_takesNumber_22 : decode zb_Mo_takesNumber 22 = .ok (.iconst 0, 1) := by decide +kernel
theorem d_Mo_takesNumber_23 : decode zb_Mo_takesNumber 23 = .ok (.bipush 9, 2) := by decide +kernel
theorem d_Mo_takesNumber_25 : decode zb_Mo_takesNumber 25 = .ok (.invokevirtual 234, 3) := by decide +kernel
theorem d_Mo_takesNumber_28 : decode zb_Mo_takesNumber 28 = .ok (.ifCond .eq 15, 3) := by decide +kernel
theorem d_Mo_takesNumber_31 : decode zb_Mo_takesNumber 31 = .ok (.bipush 10, 2) := by decide +kernel
theorem d_Mo_takesNumber_33 : decode zb_Mo_takesNumber 33 = .ok (.iload_n 2, 1) := by decide +kernel
theorem d_Mo_takesNumber_34 : decode zb_Mo_takesNumber 34 = .ok (.imul, 1) := by decide +kernel
theorem d_Mo_takesNumber_35 : decode zb_Mo_takesNumber 35 = .ok (.aload_n 0, 1) := by decide +kernel
theorem d_Mo_takesNumber_36 : decode zb_Mo_takesNumber 36 = .ok (.getfield 68, 3) := by decide +kernel
theorem d_Mo_takesNumber_39 : decode zb_Mo_takesNumber 39 = .ok (.iload_n 1, 1) := by decide +kernel
theorem d_Mo_takesNumber_40 : decode zb_Mo_takesNumber 40 = .ok (.iaload, 1) := by decide +kernel
theorem d_Mo_takesNumber_41 : decode zb_Mo_takesNumber 41 = .ok (.iadd, 1) := by decide +kernel
theorem d_Mo_takesNumber_42 : decode zb_Mo_takesNumber 42 = .ok (.istore_n 2, 1) := by decide +kernel
theorem d_Mo_takesNumber_43 : decode zb_Mo_takesNumber 43 = .ok (.aload_n 0, 1) := by decide +kernel
theorem d_Mo_takesNumber_44 : decode zb_Mo_takesNumber 44 = .ok (.getfield 68, 3) := by decide +kernel
theorem d_Mo_takesNumber_47 : decode zb_Mo_takesNumber 47 = .ok (.iload_n 1, 1) := by decide +kernel
theorem d_Mo_takesNumber_48 : decode zb_Mo_takesNumber 48 = .ok (.iload_n 2, 1) := by decide +kernel
theorem d_Mo_takesNumber_49 : decode zb_Mo_takesNumber 49 = .ok (.iastore, 1) := by decide +kernel
theorem d_Mo_takesNumber_50 : decode zb_Mo_takesNumber 50 = .ok (.iconst 1, 1) := by decide +kernel
theorem d_Mo_takesNumber_51 : decode zb_Mo_takesNumber 51 = .ok (.ireturn, 1) := by decide +kernel
def k_Mo_takesNumber_43 (l1 : Int32) (l2 : Int32) (x : zsM) : Option (Int32 × zsM) := (if zOut l1 25 then none else some ((1 : Int32), (x.1, (va_up x.2 35 (upd ((x.2 35)) l1.toNatClampNeg l2)))))
set_option maxRecDepth 20000 in
theorem w_Mo_takesNumber_43 {X : zX} {c : zY} {q : Nat → Nat} {l1 : Int32} {out : Int32 × zsM} (hX : Ok X zr_Mo zb_Mo_takesNumber 3 2 c) (hR : Rt X (some .boolean) (some (.int out.1)) (zwM c q out.2)) : ∀ (l2 : Int32) (x : zsM), k_Mo_takesNumber_43 l1 l2 x = some out → Go X (zwM c q x) [(0, .ref ((q 0))), (1, .int l1), (2, .int l2)] 43 [] := by
  intro l2 x h
  rw [k_Mo_takesNumber_43] at h
  refine g_aload_n (pc := 43) hX d_Mo_takesNumber_43 rfl 0 rfl ?_
  refine gf_Mo_68 (pc := 44) (v := .ref ((q 19))) hX 0 rfl rfl d_Mo_takesNumber_44 ?_
  refine g_iload_n (pc := 47) hX d_Mo_takesNumber_47 rfl 1 rfl ?_
  refine g_iload_n (pc := 48) hX d_Mo_takesNumber_48 rfl 2 rfl ?_
  refine g_iast (pc := 49) (f := (x.2 35)) (w' := (zwM c q ((x.1, (va_up x.2 35 (upd ((x.2 35)) l1.toNatClampNeg l2)))))) hX 19 rfl h (sa_Mo_19 c q x (upd ((x.2 35)) l1.toNatClampNeg l2)) d_Mo_takesNumber_49 (fun h => ?_)
  refine g_iconst (pc := 50) hX d_Mo_takesNumber_50 zc_1 ?_
  obtain rfl := Option.some.inj h
  exact g_zret (pc := 51) hX hR (Or.inr rfl) d_Mo_takesNumber_51
def k_Mo_takesNumber (x : zsM) (l1 : Int32) : Option (Int32 × zsM) := (k_Mo_takes x l1 ((0 : Int32)) ((9 : Int32))).bind fun o1 => (if o1.1 = 0 then some ((0 : Int32), o1.2) else (if zOut l1 25 then none else (k_Mo_takes o1.2 l1 ((0 : Int32)) ((9 : Int32))).bind fun o3 => (if o3.1 = 0 then k_Mo_takesNumber_43 l1 ((((o1.2.2 35)) l1.toNatClampNeg)) o3.2 else (if zOut l1 25 then none else k_Mo_takesNumber_43 l1 ((((10 : Int32) * (((o1.2.2 35)) l1.toNatClampNeg)) + (((o3.2.2 35)) l1.toNatClampNeg))) o3.2))))
set_option maxRecDepth 20000 in
theorem c_Mo_takesNumber (c : zY) (q : Nat → Nat) (x : zsM) (l1 : Int32) {out : Int32 × zsM} (h : k_Mo_takesNumber x l1 = some out) : KM zy_Mo_takesNumber zb_Mo_takesNumber 3 (some .boolean) 2 c [.ref ((q 0)), .int l1] (zwM c q x) (zwM c q out.2) (some (.int out.1)) := zK_of zp_Mo rfl (Nat.le_of_ble_eq_true rfl) (zq_Mo c q _ _) (fun X hX hR => by
  show Go X (zwM c q x) [(0, .ref ((q 0))), (1, .int l1)] 0 []
  rw [k_Mo_takesNumber] at h
  refine g_aload_n (pc := 0) hX d_Mo_takesNumber_0 rfl 0 rfl ?_
  refine g_iload_n (pc := 1) hX d_Mo_takesNumber_1 rfl 1 rfl ?_
  refine g_iconst (pc := 2) hX d_Mo_takesNumber_2 zc_0 ?_
  refine g_bipush (pc := 3) hX d_Mo_takesNumber_3 ze_9 ?_
  obtain ⟨o1, e1, h⟩ := zbind h
  refine g_cvI (pc := 5) (w1 := []) (w2 := []) (st := []) (w' := (zwM c q o1.2)) hX zk_Mo_takes zs_Mo_takes zL_Mo_234 (c_Mo_takes c q x l1 ((0 : Int32)) ((9 : Int32)) e1) rfl rfl rfl rfl (zself _) (zself _).symm 0 10 rfl rfl rfl d_Mo_takesNumber_5 ?_
  refine g_if_ne (pc := 8) (tgt := 13) hX d_Mo_takesNumber_8 (by decide) h (fun c2 h => ?_) (fun c2 h => ?_)
  · refine g_aload_n (pc := 13) hX d_Mo_takesNumber_13 rfl 0 rfl ?_
    refine gf_Mo_68 (pc := 14) (v := .ref ((q 19))) hX 0 rfl rfl d_Mo_takesNumber_14 ?_
    refine g_iload_n (pc := 17) hX d_Mo_takesNumber_17 rfl 1 rfl ?_
    refine g_iald (pc := 18) (f := (o1.2.2 35)) hX 19 rfl h d_Mo_takesNumber_18 (fun h => ?_)
    refine g_istore_n (pc := 19) (L' := [(2, .int ((((o1.2.2 35)) l1.toNatClampNeg))), (0, .ref ((q 0))), (1, .int l1)]) hX d_Mo_takesNumber_19 rfl rfl rfl ?_
    refine g_aload_n (pc := 20) hX d_Mo_takesNumber_20 rfl 1 rfl ?_
    refine g_iload_n (pc := 21) hX d_Mo_takesNumber_21 rfl 2 rfl ?_
    refine g_iconst (pc := 22) hX d_Mo_takesNumber_22 zc_0 ?_
    refine g_bipush (pc := 23) hX d_Mo_takesNumber_23 ze_9 ?_
    obtain ⟨o3, e3, h⟩ := zbind h
    refine g_cvI (pc := 25) (w1 := []) (w2 := []) (st := []) (w' := (zwM c q o3.2)) hX zk_Mo_takes zs_Mo_takes zL_Mo_234 (c_Mo_takes c q o1.2 l1 ((0 : Int32)) ((9 : Int32)) e3) rfl rfl rfl rfl (zself _) (zself _).symm 0 10 rfl rfl rfl d_Mo_takesNumber_25 ?_
    refine g_if_eq (pc := 28) (tgt := 43) hX d_Mo_takesNumber_28 (by decide) h (fun c4 h => ?_) (fun c4 h => ?_)
    · refine g_ls (L' := [(0, .ref ((q 0))), (1, .int l1), (2, .int ((((o1.2.2 35)) l1.toNatClampNeg)))]) [1, 2, 0] rfl ?_
      exact w_Mo_takesNumber_43 hX hR _ _ h
    · refine g_bipush (pc := 31) hX d_Mo_takesNumber_31 ze_10 ?_
      refine g_iload_n (pc := 33) hX d_Mo_takesNumber_33 rfl 0 rfl ?_
      refine g_imul (pc := 34) hX d_Mo_takesNumber_34 ?_
      refine g_aload_n (pc := 35) hX d_Mo_takesNumber_35 rfl 1 rfl ?_
      refine gf_Mo_68 (pc := 36) (v := .ref ((q 19))) hX 0 rfl rfl d_Mo_takesNumber_36 ?_
      refine g_iload_n (pc := 39) hX d_Mo_takesNumber_39 rfl 2 rfl ?_
      refine g_iald (pc := 40) (f := (o3.2.2 35)) hX 19 rfl h d_Mo_takesNumber_40 (fun h => ?_)
      refine g_iadd (pc := 41) hX d_Mo_takesNumber_41 ?_
      refine g_istore_n (pc := 42) (L' := [(2, .int ((((10 : Int32) * (((o1.2.2 35)) l1.toNatClampNeg)) + (((o3.2.2 35)) l1.toNatClampNeg)))), (0, .ref ((q 0))), (1, .int l1)]) hX d_Mo_takesNumber_42 rfl rfl rfl ?_
      refine g_ls (L' := [(0, .ref ((q 0))), (1, .int l1), (2, .int ((((10 : Int32) * (((o1.2.2 35)) l1.toNatClampNeg)) + (((o3.2.2 35)) l1.toNatClampNeg))))]) [1, 2, 0] rfl ?_
      exact w_Mo_takesNumber_43 hX hR _ _ h
  · refine g_iconst (pc := 11) hX d_Mo_takesNumber_11 zc_0 ?_
    obtain rfl := Option.some.inj h
    exact g_zret (pc := 12) hX hR (Or.inl rfl) d_Mo_takesNumber_12)
theorem d_Mo_takesEffect_0 : decode zb_Mo_takesEffect 0 = .ok (.iconst 3, 1) := by decide +kernel
theorem d_Mo_takesEffect_1 : decode zb_Mo_takesEffect 1 = .ok (.iconst 5, 1) := by decide +kernel
theorem d_Mo_takesEffect_2 : decode zb_Mo_takesEffect 2 = .ok (.aload_n 0, 1) := by decide +kernel
theorem d_Mo_takesEffect_3 : decode zb_Mo_takesEffect 3 = .ok (.getfield 68, 3) := by decide +kernel
theorem d_Mo_takesEffect_6 : decode zb_Mo_takesEffect 6 = .ok (.iconst 2, 1) := by decide +kernel
theorem d_Mo_takesEffect_7 : decode zb_Mo_takesEffect 7 = .ok (.iaload, 1) := by decide +kernel
theorem d_Mo_takesEffect_8 : decode zb_Mo_takesEffect 8 = .ok (.imul, 1) := by decide +kernel
theorem d_Mo_takesEffect_9 : decode zb_Mo_takesEffect 9 = .ok (.iadd, 1) := by decide +kernel
theorem d_Mo_takesEffect_10 : decode zb_Mo_takesEffect 10 = .ok (.istore_n 1, 1) := by decide +kernel
theorem d_Mo_takesEffect_11 : decode zb_Mo_takesEffect 11 = .ok (.aload_n 0, 1) := by decide +kernel
theorem d_Mo_takesEffect_12 : decode zb_Mo_takesEffect 12 = .ok (.getfield 231, 3) := by decide +kernel
theorem d_Mo_takesEffect_15 : decode zb_Mo_takesEffect 15 = .ok (.aload_n 0, 1) := by decide +kernel
theorem d_Mo_takesEffect_16 : decode zb_Mo_takesEffect 16 = .ok (.getfield 224, 3) := by decide +kernel
theorem d_Mo_takesEffect_19 : decode zb_Mo_takesEffect 19 = .ok (.if_icmp .ge 15, 3) := by decide +kernel
theorem d_Mo_takesEffect_22 : decode zb_Mo_takesEffect 22 = .ok (.aload_n 0, 1) := by decide +kernel
theorem d_Mo_takesEffect_23 : decode zb_Mo_takesEffect 23 = .ok (.getfield 65, 3) := by decide +kernel
theorem d_Mo_takesEffect_26 : decode zb_Mo_takesEffect 26 = .ok (.aload_n 0, 1) := by decide +kernel
theorem d_Mo_takesEffect_27 : decode zb_Mo_takesEffect 27 = .ok (.getfield 231, 3) := by decide +kernel
theorem d_Mo_takesEffect_30 : decode zb_Mo_takesEffect 30 = .ok (.iaload, 1) := by decide +kernel
theorem d_Mo_takesEffect_31 : decode zb_Mo_takesEffect 31 = .ok (.goto 4, 3) := by decide +kernel
theorem d_Mo_takesEffect_34 : decode zb_Mo_takesEffect 34 = .ok (.iconst (-1), 1) := by decide +kernel
theorem d_Mo_takesEffect_35 : decode zb_Mo_takesEffect 35 = .ok (.istore_n 2, 1) := by decide +kernel
theorem d_Mo_takesEffect_36 : decode zb_Mo_takesEffect 36 = .ok (.iload_n 2, 1) := by decide +kernel
theorem d_Mo_takesEffect_37 : decode zb_Mo_takesEffect 37 = .ok (.bipush 104, 2) := by decide +kernel
theorem d_Mo_takesEffect_39 : decode zb_Mo_takesEffect 39 = .ok (.if_icmp .eq 17, 3) := by decide +kernel
theorem d_Mo_takesEffect_42 : decode zb_Mo_takesEffect 42 = .ok (.iload_n 2, 1) := by decide +kernel
theorem d_Mo_takesEffect_43 : decode zb_Mo_takesEffect 43 = .ok (.bipush 109, 2) := by decide +kernel
theorem d_Mo_takesEffect_45 : decode zb_Mo_takesEffect 45 = .ok (.if_icmp .eq 11, 3) := by decide +kernel
theorem d_Mo_takesEffect_48 : decode zb_Mo_takesEffect 48 = .ok (.iload_n 2, 1) := by decide +kernel
theorem d_Mo_takesEffect_49 : decode zb_Mo_takesEffect 49 = .ok (.bipush 107, 2) := by decide +kernel
theorem d_Mo_takesEffect_51 : decode zb_Mo_takesEffect 51 = .ok (.if_icmp .eq 5, 3) := by decide +kernel
theorem d_Mo_takesEffect_54 : decode zb_Mo_takesEffect 54 = .ok (.iconst 0, 1) := by decide +kernel
theorem d_Mo_takesEffect_55 : decode zb_Mo_takesEffect 55 = .ok (.ireturn, 1) := by decide +kernel
theorem d_Mo_takesEffect_56 : decode zb_Mo_takesEffect 56 = .ok (.aload_n 0, 1) := by decide +kernel
theorem d_Mo_takesEffect_57 : decode zb_Mo_takesEffect 57 = .ok (.dup, 1) := by decide +kernel
theorem d_Mo_takesEffect_58 : decode zb_Mo_takesEffect 58 = .ok (.getfield 231, 3) := by decide +kernel
theorem d_Mo_takesEffect_61 : decode zb_Mo_takesEffect 61 = .ok (.iconst 1, 1) := by decide +kernel
theorem d_Mo_takesEffect_62 : decode zb_Mo_takesEffect 62 = .ok (.iadd, 1) := by decide +kernel
theorem d_Mo_takesEffect_63 : decode zb_Mo_takesEffect 63 = .ok (.putfield 231, 3) := by decide +kernel
theorem d_Mo_takesEffect_66 : decode zb_Mo_takesEffect 66 = .ok (.aload_n 0, 1) := by decide +kernel
theorem d_Mo_takesEffect_67 : decode zb_Mo_takesEffect 67 = .ok (.getfield 68, 3) := by decide +kernel
theorem d_Mo_takesEffect_70 : decode zb_Mo_takesEffect 70 = .ok (.iload_n 1, 1) := by decide +kernel
theorem d_Mo_takesEffect_71 : decode zb_Mo_takesEffect 71 = .ok (.iload_n 2, 1) := by decide +kernel
theorem d_Mo_takesEffect_72 : decode zb_Mo_takesEffect 72 = .ok (.iastore, 1) := by decide +kernel
theorem d_Mo_takesEffect_73 : decode zb_Mo_takesEffect 73 = .ok (.aload_n 0, 1) := by decide +kernel
theorem d_Mo_takesEffect_74 : decode zb_Mo_takesEffect 74 = .ok (.getfield 68, 3) := by decide +kernel
theorem d_Mo_takesEffect_77 : decode zb_Mo_takesEffect 77 = .ok (.iconst 2, 1) := by decide +kernel
theorem d_Mo_takesEffect_78 : decode zb_Mo_takesEffect 78 = .ok (.dup2, 1) := by decide +kernel
theorem d_Mo_takesEffect_79 : decode zb_Mo_takesEffect 79 = .ok (.iaload, 1) := by decide +kernel
theorem d_Mo_takesEffect_80 : decode zb_Mo_takesEffect 80 = .ok (.iconst 1, 1) := by decide +kernel
theorem d_Mo_takesEffect_81 : decode zb_Mo_takesEffect 81 = .ok (.iadd, 1) := by decide +kernel
theorem d_Mo_takesEffect_82 : decode zb_Mo_takesEffect 82 = .ok (.iastore, 1) := by decide +kernel
theorem d_Mo_takesEffect_83 : decode zb_Mo_takesEffect 83 = .ok (.iload_n 2, 1) := by decide +kernel
theorem d_Mo_takesEffect_84 : decode zb_Mo_takesEffect 84 = .ok (.bipush 107, 2) := by decide +kernel
theorem d_Mo_takesEffect_86 : decode zb_Mo_takesEffect 86 = .ok (.if_icmp .eq 11, 3) := by decide +kernel
theorem d_Mo_takesEffect_89 : decode zb_Mo_takesEffect 89 = .ok (.aload_n 0, 1) := by decide +kernel
theorem d_Mo_takesEffect_90 : decode zb_Mo_takesEffect 90 = .ok (.iload_n 1, 1) := by decide +kernel
theorem d_Mo_takesEffect_91 : decode zb_Mo_takesEffect 91 = .ok (.iconst 1, 1) := by decide +kernel
theorem d_Mo_takesEffect_92 : decode zb_Mo_takesEffect 92 = .ok (.iadd, 1) := by decide +kernel
theorem d_Mo_takesEffect_93 : decode zb_Mo_takesEffect 93 = .ok (.invokevirtual 237, 3) := by decide +kernel
theorem d_Mo_takesEffect_96 : decode zb_Mo_takesEffect 96 = .ok (.ireturn, 1) := by decide +kernel
theorem d_Mo_takesEffect_97 : decode zb_Mo_takesEffect 97 = .ok (.aload_n 0, 1) := by decide +kernel
theorem d_Mo_takesEffect_98 : decode zb_Mo_takesEffect 98 = .ok (.iload_n 1, 1) := by decide +kernel
theorem d_Mo_takesEffect_99 : decode zb_Mo_takesEffect 99 = .ok (.iconst 1, 1) := by decide +kernel
theorem d_Mo_takesEffect_100 : decode zb_Mo_takesEffect 100 = .ok (.iadd, 1) := by decide +kernel
theorem d_Mo_takesEffect_101 : decode zb_Mo_takesEffect 101 = .ok (.iconst 0, 1) := by decide +kernel
theorem d_Mo_takesEffect_102 : decode zb_Mo_takesEffect 102 = .ok (.iconst 5, 1) := by decide +kernel
theorem d_Mo_takesEffect_103 : decode zb_Mo_takesEffect 103 = .ok (.invokevirtual 234, 3) := by decide +kernel
theorem d_Mo_takesEffect_106 : decode zb_Mo_takesEffect 106 = .ok (.ifCond .eq 45, 3) := by decide +kernel
theorem d_Mo_takesEffect_109 : decode zb_Mo_takesEffect 109 = .ok (.aload_n 0, 1) := by decide +kernel
theorem d_Mo_takesEffect_110 : decode zb_Mo_takesEffect 110 = .ok (.iload_n 1, 1) := by decide +kernel
theorem d_Mo_takesEffect_111 : decode zb_Mo_takesEffect 111 = .ok (.iconst 2, 1) := by decide +kernel
theorem d_Mo_takesEffect_112 : decode zb_Mo_takesEffect 112 = .ok (.iadd, 1) := by decide +kernel
theorem d_Mo_takesEffect_113 : decode zb_Mo_takesEffect 113 = .ok (.iconst 1, 1) := by decide +kernel
theorem d_Mo_takesEffect_114 : decode zb_Mo_takesEffect 114 = .ok (.bipush 9, 2) := by decide +kernel
theorem d_Mo_takesEffect_116 : decode zb_Mo_takesEffect 116 = .ok (.invokevirtual 234, 3) := by decide +kernel
theorem d_Mo_takesEffect_119 : decode zb_Mo_takesEffect 119 = .ok (.ifCond .eq 32, 3) := by decide +kernel
theorem d_Mo_takesEffect_122 : decode zb_Mo_takesEffect 122 = .ok (.aload_n 0, 1) := by decide +kernel
theorem d_Mo_takesEffect_123 : decode zb_Mo_takesEffect 123 = .ok (.iload_n 1, 1) := by decide +kernel
theorem d_Mo_takesEffect_124 : decode zb_Mo_takesEffect 124 = .ok (.iconst 3, 1) := by decide +kernel
theorem d_Mo_takesEffect_125 : decode zb_Mo_takesEffect 125 = .ok (.iadd, 1) := by decide +kernel
theorem d_Mo_takesEffect_126 : decode zb_Mo_takesEffect 126 = .ok (.iconst 0, 1) := by decide +kernel
theorem d_Mo_takesEffect_127 : decode zb_Mo_takesEffect 127 = .ok (.iconst 3, 1) := by decide +kernel
theorem d_Mo_takesEffect_128 : decode zb_Mo_takesEffect 128 = .ok (.invokevirtual 234, 3) := by decide +kernel
theorem d_Mo_takesEffect_131 : decode zb_Mo_takesEffect 131 = .ok (.ifCond .eq 20, 3) := by decide +kernel
theorem d_Mo_takesEffect_134 : decode zb_Mo_takesEffect 134 = .ok (.aload_n 0, 1) := by decide +kernel
theorem d_Mo_takesEffect_135 : decode zb_Mo_takesEffect 135 = .ok (.iload_n 1, 1) := by decide +kernel
theorem d_Mo_takesEffect_136 : decode zb_Mo_takesEffect 136 = .ok (.iconst 4, 1) := by decide +kernel
theorem d_Mo_takesEffect_137 : decode zb_Mo_takesEffect 137 = .ok (.iadd, 1) := by decide +kernel
theorem d_Mo_takesEffect_138 : decode zb_Mo_takesEffect 138 = .ok (.iconst 1, 1) := by decide +kernel
theorem d_Mo_takesEffect_139 : decode zb_Mo_takesEffect 139 = .ok (.bipush 9, 2) := by decide +kernel
theorem d_Mo_takesEffect_141 : decode zb_Mo_takesEffect 141 = .ok (.invokevirtual 234, 3) := by decide +kernel
theorem d_Mo_takesEffect_144 : decode zb_Mo_takesEffect 144 = .ok (.ifCond .eq 7, 3) := by decide +kernel
theorem d_Mo_takesEffect_147 : decode zb_Mo_takesEffect 147 = .ok (.iconst 1, 1) := by decide +kernel
theorem d_Mo_takesEffect_148 : decode zb_Mo_takesEffect 148 = .ok (.goto 4, 3) := by decide +kernel
theorem d_Mo_takesEffect_151 : decode zb_Mo_takesEffect 151 = .ok (.iconst 0, 1) := by decide +kernel
theorem d_Mo_takesEffect_152 : decode zb_Mo_takesEffect 152 = .ok (.ireturn, 1) := by decide +kernel
def k_Mo_takesEffect_56 (l1 : Int32) (l2 : Int32) (x : zsM) : Option (Int32 × zsM) := (if zOut l1 25 then none else (if zOut ((2 : Int32)) 25 then none else (if zOut ((2 : Int32)) 25 then none else (if l2 = (107 : Int32) then (k_Mo_takes (((upd x.1 37 (((x.1 37) + (1 : Int32)))), (va_up ((va_up x.2 35 (upd ((x.2 35)) l1.toNatClampNeg l2))) 35 (upd ((upd ((x.2 35)) l1.toNatClampNeg l2)) ((2 : Int32)).toNatClampNeg (((((upd ((x.2 35)) l1.toNatClampNeg l2)) ((2 : Int32)).toNatClampNeg) + (1 : Int32))))))) ((l1 + (1 : Int32))) ((0 : Int32)) ((5 : Int32))).bind fun o4 => (if o4.1 = 0 then some ((0 : Int32), o4.2) else (k_Mo_takes o4.2 ((l1 + (2 : Int32))) ((1 : Int32)) ((9 : Int32))).bind fun o6 => (if o6.1 = 0 then some ((0 : Int32), o6.2) else (k_Mo_takes o6.2 ((l1 + (3 : Int32))) ((0 : Int32)) ((3 : Int32))).bind fun o8 => (if o8.1 = 0 then some ((0 : Int32), o8.2) else (k_Mo_takes o8.2 ((l1 + (4 : Int32))) ((1 : Int32)) ((9 : Int32))).bind fun o10 => (if o10.1 = 0 then some ((0 : Int32), o10.2) else some ((1 : Int32), o10.2))))) else (k_Mo_takesNumber (((upd x.1 37 (((x.1 37) + (1 : Int32)))), (va_up ((va_up x.2 35 (upd ((x.2 35)) l1.toNatClampNeg l2))) 35 (upd ((upd ((x.2 35)) l1.toNatClampNeg l2)) ((2 : Int32)).toNatClampNeg (((((upd ((x.2 35)) l1.toNatClampNeg l2)) ((2 : Int32)).toNatClampNeg) + (1 : Int32))))))) ((l1 + (1 : Int32)))).bind fun o12 => (if o12.1 = 0 ∨ o12.1 = 1 then some (o12.1, o12.2) else none)))))
set_option maxRecDepth 20000 in
theorem w_Mo_takesEffect_56 {X : zX} {c : zY} {q : Nat → Nat} {out : Int32 × zsM} (hX : Ok X zr_Mo zb_Mo_takesEffect 3 3 c) (hR : Rt X (some .boolean) (some (.int out.1)) (zwM c q out.2)) : ∀ (l1 : Int32) (l2 : Int32) (x : zsM), k_Mo_takesEffect_56 l1 l2 x = some out → Go X (zwM c q x) [(0, .ref ((q 0))), (1, .int l1), (2, .int l2)] 56 [] := by
  intro l1 l2 x h
  rw [k_Mo_takesEffect_56] at h
  refine g_aload_n (pc := 56) hX d_Mo_takesEffect_56 rfl 0 rfl ?_
  refine g_dup (pc := 57) hX d_Mo_takesEffect_57 rfl ?_
  refine gf_Mo_231 (pc := 58) (v := .int ((x.1 37))) hX 0 rfl rfl d_Mo_takesEffect_58 ?_
  refine g_iconst (pc := 61) hX d_Mo_takesEffect_61 zc_1 ?_
  refine g_iadd (pc := 62) hX d_Mo_takesEffect_62 ?_
  refine pf_Mo_231 (pc := 63) (w2 := (zwM c q (((upd x.1 37 (((x.1 37) + (1 : Int32)))), x.2)))) hX 0 rfl rfl (su_Mo_0_37 c q x (((x.1 37) + (1 : Int32)))) d_Mo_takesEffect_63 ?_
  refine g_aload_n (pc := 66) hX d_Mo_takesEffect_66 rfl 0 rfl ?_
  refine gf_Mo_68 (pc := 67) (v := .ref ((q 19))) hX 0 rfl rfl d_Mo_takesEffect_67 ?_
  refine g_iload_n (pc := 70) hX d_Mo_takesEffect_70 rfl 1 rfl ?_
  refine g_iload_n (pc := 71) hX d_Mo_takesEffect_71 rfl 2 rfl ?_
  refine g_iast (pc := 72) (f := (x.2 35)) (w' := (zwM c q (((upd x.1 37 (((x.1 37) + (1 : Int32)))), (va_up x.2 35 (upd ((x.2 35)) l1.toNatClampNeg l2)))))) hX 19 rfl h (sa_Mo_19 c q (((upd x.1 37 (((x.1 37) + (1 : Int32)))), x.2)) (upd ((x.2 35)) l1.toNatClampNeg l2)) d_Mo_takesEffect_72 (fun h => ?_)
  refine g_aload_n (pc := 73) hX d_Mo_takesEffect_73 rfl 0 rfl ?_
  refine gf_Mo_68 (pc := 74) (v := .ref ((q 19))) hX 0 rfl rfl d_Mo_takesEffect_74 ?_
  refine g_iconst (pc := 77) hX d_Mo_takesEffect_77 zc_2 ?_
  refine g_dup2 (pc := 78) hX d_Mo_takesEffect_78 rfl rfl ?_
  refine g_iald (pc := 79) (f := (upd ((x.2 35)) l1.toNatClampNeg l2)) hX 19 rfl h d_Mo_takesEffect_79 (fun h => ?_)
  refine g_iconst (pc := 80) hX d_Mo_takesEffect_80 zc_1 ?_
  refine g_iadd (pc := 81) hX d_Mo_takesEffect_81 ?_
  refine g_iast (pc := 82) (f := (upd ((x.2 35)) l1.toNatClampNeg l2)) (w' := (zwM c q (((upd x.1 37 (((x.1 37) + (1 : Int32)))), (va_up ((va_up x.2 35 (upd ((x.2 35)) l1.toNatClampNeg l2))) 35 (upd ((upd ((x.2 35)) l1.toNatClampNeg l2)) ((2 : Int32)).toNatClampNeg (((((upd ((x.2 35)) l1.toNatClampNeg l2)) ((2 : Int32)).toNatClampNeg) + (1 : Int32))))))))) hX 19 rfl h (sa_Mo_19 c q (((upd x.1 37 (((x.1 37) + (1 : Int32)))), (va_up x.2 35 (upd ((x.2 35)) l1.toNatClampNeg l2)))) (upd ((upd ((x.2 35)) l1.toNatClampNeg l2)) ((2 : Int32)).toNatClampNeg (((((upd ((x.2 35)) l1.toNatClampNeg l2)) ((2 : Int32)).toNatClampNeg) + (1 : Int32))))) d_Mo_takesEffect_82 (fun h => ?_)
  refine g_iload_n (pc := 83) hX d_Mo_takesEffect_83 rfl 2 rfl ?_
  refine g_bipush (pc := 84) hX d_Mo_takesEffect_84 ze_107 ?_
  refine g_icmp_eq (pc := 86) (tgt := 97) hX d_Mo_takesEffect_86 (by decide) h (fun c3 h => ?_) (fun c3 h => ?_)
  · refine g_aload_n (pc := 97) hX d_Mo_takesEffect_97 rfl 0 rfl ?_
    refine g_iload_n (pc := 98) hX d_Mo_takesEffect_98 rfl 1 rfl ?_
    refine g_iconst (pc := 99) hX d_Mo_takesEffect_99 zc_1 ?_
    refine g_iadd (pc := 100) hX d_Mo_takesEffect_100 ?_
    refine g_iconst (pc := 101) hX d_Mo_takesEffect_101 zc_0 ?_
    refine g_iconst (pc := 102) hX d_Mo_takesEffect_102 zc_5 ?_
    obtain ⟨o4, e4, h⟩ := zbind h
    refine g_cvI (pc := 103) (w1 := []) (w2 := []) (st := []) (w' := (zwM c q o4.2)) hX zk_Mo_takes zs_Mo_takes zL_Mo_234 (c_Mo_takes c q (((upd x.1 37 (((x.1 37) + (1 : Int32)))), (va_up ((va_up x.2 35 (upd ((x.2 35)) l1.toNatClampNeg l2))) 35 (upd ((upd ((x.2 35)) l1.toNatClampNeg l2)) ((2 : Int32)).toNatClampNeg (((((upd ((x.2 35)) l1.toNatClampNeg l2)) ((2 : Int32)).toNatClampNeg) + (1 : Int32))))))) ((l1 + (1 : Int32))) ((0 : Int32)) ((5 : Int32)) e4) rfl rfl rfl rfl (zself _) (zself _).symm 0 10 rfl rfl rfl d_Mo_takesEffect_103 ?_
    refine g_if_eq (pc := 106) (tgt := 151) hX d_Mo_takesEffect_106 (by decide) h (fun c5 h => ?_) (fun c5 h => ?_)
    · refine g_iconst (pc := 151) hX d_Mo_takesEffect_151 zc_0 ?_
      obtain rfl := Option.some.inj h
      exact g_zret (pc := 152) hX hR (Or.inl rfl) d_Mo_takesEffect_152
    · refine g_aload_n (pc := 109) hX d_Mo_takesEffect_109 rfl 0 rfl ?_
      refine g_iload_n (pc := 110) hX d_Mo_takesEffect_110 rfl 1 rfl ?_
      refine g_iconst (pc := 111) hX d_Mo_takesEffect_111 zc_2 ?_
      refine g_iadd (pc := 112) hX d_Mo_takesEffect_112 ?_
      refine g_iconst (pc := 113) hX d_Mo_takesEffect_113 zc_1 ?_
      refine g_bipush (pc := 114) hX d_Mo_takesEffect_114 ze_9 ?_
      obtain ⟨o6, e6, h⟩ := zbind h
      refine g_cvI (pc := 116) (w1 := []) (w2 := []) (st := []) (w' := (zwM c q o6.2)) hX zk_Mo_takes zs_Mo_takes zL_Mo_234 (c_Mo_takes c q o4.2 ((l1 + (2 : Int32))) ((1 : Int32)) ((9 : Int32)) e6) rfl rfl rfl rfl (zself _) (zself _).symm 0 10 rfl rfl rfl d_Mo_takesEffect_116 ?_
      refine g_if_eq (pc := 119) (tgt := 151) hX d_Mo_takesEffect_119 (by decide) h (fun c7 h => ?_) (fun c7 h => ?_)
      · refine g_iconst (pc := 151) hX d_Mo_takesEffect_151 zc_0 ?_
        obtain rfl := Option.some.inj h
        exact g_zret (pc := 152) hX hR (Or.inl rfl) d_Mo_takesEffect_152
      · refine g_aload_n (pc := 122) hX d_Mo_takesEffect_122 rfl 0 rfl ?_
        refine g_iload_n (pc := 123) hX d_Mo_takesEffect_123 rfl 1 rfl ?_
        refine g_iconst (pc := 124) hX d_Mo_takesEffect_124 zc_3 ?_
        refine g_iadd (pc := 125) hX d_Mo_takesEffect_125 ?_
        refine g_iconst (pc := 126) hX d_Mo_takesEffect_126 zc_0 ?_
        refine g_iconst (pc := 127) hX d_Mo_takesEffect_127 zc_3 ?_
        obtain ⟨o8, e8, h⟩ := zbind h
        refine g_cvI (pc := 128) (w1 := []) (w2 := []) (st := []) (w' := (zwM c q o8.2)) hX zk_Mo_takes zs_Mo_takes zL_Mo_234 (c_Mo_takes c q o6.2 ((l1 + (3 : Int32))) ((0 : Int32)) ((3 : Int32)) e8) rfl rfl rfl rfl (zself _) (zself _).symm 0 10 rfl rfl rfl d_Mo_takesEffect_128 ?_
        refine g_if_eq (pc := 131) (tgt := 151) hX d_Mo_takesEffect_131 (by decide) h (fun c9 h => ?_) (fun c9 h => ?_)
        · refine g_iconst (pc := 151) hX d_Mo_takesEffect_151 zc_0 ?_
          obtain rfl := Option.some.inj h
          exact g_zret (pc := 152) hX hR (Or.inl rfl) d_Mo_takesEffect_152
        · refine g_aload_n (pc := 134) hX d_Mo_takesEffect_134 rfl 0 rfl ?_
          refine g_iload_n (pc := 135) hX d_Mo_takesEffect_135 rfl 1 rfl ?_
          refine g_iconst (pc := 136) hX d_Mo_takesEffect_136 zc_4 ?_
          refine g_iadd (pc := 137) hX d_Mo_takesEffect_137 ?_
          refine g_iconst (pc := 138) hX d_Mo_takesEffect_138 zc_1 ?_
          refine g_bipush (pc := 139) hX d_Mo_takesEffect_139 ze_9 ?_
          obtain ⟨o10, e10, h⟩ := zbind h
          refine g_cvI (pc := 141) (w1 := []) (w2 := []) (st := []) (w' := (zwM c q o10.2)) hX zk_Mo_takes zs_Mo_takes zL_Mo_234 (c_Mo_takes c q o8.2 ((l1 + (4 : Int32))) ((1 : Int32)) ((9 : Int32)) e10) rfl rfl rfl rfl (zself _) (zself _).symm 0 10 rfl rfl rfl d_Mo_takesEffect_141 ?_
          refine g_if_eq (pc := 144) (tgt := 151) hX d_Mo_takesEffect_144 (by decide) h (fun c11 h => ?_) (fun c11 h => ?_)
          · refine g_iconst (pc := 151) hX d_Mo_takesEffect_151 zc_0 ?_
            obtain rfl := Option.some.inj h
            exact g_zret (pc := 152) hX hR (Or.inl rfl) d_Mo_takesEffect_152
          · refine g_iconst (pc := 147) hX d_Mo_takesEffect_147 zc_1 ?_
            refine g_goto (pc := 148) (tgt := 152) hX d_Mo_takesEffect_148 (by decide) ?_
            obtain rfl := Option.some.inj h
            exact g_zret (pc := 152) hX hR (Or.inr rfl) d_Mo_takesEffect_152
  · refine g_aload_n (pc := 89) hX d_Mo_takesEffect_89 rfl 0 rfl ?_
    refine g_iload_n (pc := 90) hX d_Mo_takesEffect_90 rfl 1 rfl ?_
    refine g_iconst (pc := 91) hX d_Mo_takesEffect_91 zc_1 ?_
    refine g_iadd (pc := 92) hX d_Mo_takesEffect_92 ?_
    obtain ⟨o12, e12, h⟩ := zbind h
    refine g_cvI (pc := 93) (w1 := []) (w2 := []) (st := []) (w' := (zwM c q o12.2)) hX zk_Mo_takesNumber zs_Mo_takesNumber zL_Mo_237 (c_Mo_takesNumber c q (((upd x.1 37 (((x.1 37) + (1 : Int32)))), (va_up ((va_up x.2 35 (upd ((x.2 35)) l1.toNatClampNeg l2))) 35 (upd ((upd ((x.2 35)) l1.toNatClampNeg l2)) ((2 : Int32)).toNatClampNeg (((((upd ((x.2 35)) l1.toNatClampNeg l2)) ((2 : Int32)).toNatClampNeg) + (1 : Int32))))))) ((l1 + (1 : Int32))) e12) rfl rfl rfl rfl (zself _) (zself _).symm 0 10 rfl rfl rfl d_Mo_takesEffect_93 ?_
    obtain ⟨hb13, h⟩ := zifb h
    obtain rfl := Option.some.inj h
    exact g_zret (pc := 96) hX hR hb13 d_Mo_takesEffect_96
def k_Mo_takesEffect_35 (l1 : Int32) (s0 : Int32) (x : zsM) : Option (Int32 × zsM) := (if s0 = (104 : Int32) then k_Mo_takesEffect_56 l1 s0 x else (if s0 = (109 : Int32) then k_Mo_takesEffect_56 l1 s0 x else (if s0 = (107 : Int32) then k_Mo_takesEffect_56 l1 s0 x else some ((0 : Int32), x))))
set_option maxRecDepth 20000 in
theorem w_Mo_takesEffect_35 {X : zX} {c : zY} {q : Nat → Nat} {out : Int32 × zsM} (hX : Ok X zr_Mo zb_Mo_takesEffect 3 3 c) (hR : Rt X (some .boolean) (some (.int out.1)) (zwM c q out.2)) : ∀ (l1 : Int32) (s0 : Int32) (x : zsM), k_Mo_takesEffect_35 l1 s0 x = some out → Go X (zwM c q x) [(0, .ref ((q 0))), (1, .int l1)] 35 [.int s0] := by
  intro l1 s0 x h
  rw [k_Mo_takesEffect_35] at h
  refine g_istore_n (pc := 35) (L' := [(2, .int s0), (0, .ref ((q 0))), (1, .int l1)]) hX d_Mo_takesEffect_35 rfl rfl rfl ?_
  refine g_iload_n (pc := 36) hX d_Mo_takesEffect_36 rfl 0 rfl ?_
  refine g_bipush (pc := 37) hX d_Mo_takesEffect_37 ze_104 ?_
  refine g_icmp_eq (pc := 39) (tgt := 56) hX d_Mo_takesEffect_39 (by decide) h (fun c2 h => ?_) (fun c2 h => ?_)
  · refine g_ls (L' := [(0, .ref ((q 0))), (1, .int l1), (2, .int s0)]) [1, 2, 0] rfl ?_
    exact w_Mo_takesEffect_56 hX hR _ _ _ h
  · refine g_iload_n (pc := 42) hX d_Mo_takesEffect_42 rfl 0 rfl ?_
    refine g_bipush (pc := 43) hX d_Mo_takesEffect_43 ze_109 ?_
    refine g_icmp_eq (pc := 45) (tgt := 56) hX d_Mo_takesEffect_45 (by decide) h (fun c14 h => ?_) (fun c14 h => ?_)
    · refine g_ls (L' := [(0, .ref ((q 0))), (1, .int l1), (2, .int s0)]) [1, 2, 0] rfl ?_
      exact w_Mo_takesEffect_56 hX hR _ _ _ h
    · refine g_iload_n (pc := 48) hX d_Mo_takesEffect_48 rfl 0 rfl ?_
      refine g_bipush (pc := 49) hX d_Mo_takesEffect_49 ze_107 ?_
      refine g_icmp_eq (pc := 51) (tgt := 56) hX d_Mo_takesEffect_51 (by decide) h (fun c15 h => ?_) (fun c15 h => ?_)
      · refine g_ls (L' := [(0, .ref ((q 0))), (1, .int l1), (2, .int s0)]) [1, 2, 0] rfl ?_
        exact w_Mo_takesEffect_56 hX hR _ _ _ h
      · refine g_iconst (pc := 54) hX d_Mo_takesEffect_54 zc_0 ?_
        obtain rfl := Option.some.inj h
        exact g_zret (pc := 55) hX hR (Or.inl rfl) d_Mo_takesEffect_55
def k_Mo_takesEffect (x : zsM) : Option (Int32 × zsM) := (if zOut ((2 : Int32)) 25 then none else (if (x.1 37) < (x.1 36) then (if zOut ((x.1 37)) 40 then none else k_Mo_takesEffect_35 (((3 : Int32) + ((5 : Int32) * (((x.2 35)) ((2 : Int32)).toNatClampNeg)))) ((((x.2 34)) ((x.1 37)).toNatClampNeg)) x) else k_Mo_takesEffect_35 (((3 : Int32) + ((5 : Int32) * (((x.2 35)) ((2 : Int32)).toNatClampNeg)))) ((-1 : Int32)) x))
set_option maxRecDepth 20000 in
theorem c_Mo_takesEffect (c : zY) (q : Nat → Nat) (x : zsM) {out : Int32 × zsM} (h : k_Mo_takesEffect x = some out) : KM zy_Mo_takesEffect zb_Mo_takesEffect 3 (some .boolean) 3 c [.ref ((q 0))] (zwM c q x) (zwM c q out.2) (some (.int out.1)) := zK_of zp_Mo rfl (Nat.le_of_ble_eq_true rfl) (zq_Mo c q _ _) (fun X hX hR => by
  show Go X (zwM c q x) [(0, .ref ((q 0)))] 0 []
  rw [k_Mo_takesEffect] at h
  refine g_iconst (pc := 0) hX d_Mo_takesEffect_0 zc_3 ?_
  refine g_iconst (pc := 1) hX d_Mo_takesEffect_1 zc_5 ?_
  refine g_aload_n (pc := 2) hX d_Mo_takesEffect_2 rfl 0 rfl ?_
  refine gf_Mo_68 (pc := 3) (v := .ref ((q 19))) hX 0 rfl rfl d_Mo_takesEffect_3 ?_
  refine g_iconst (pc := 6) hX d_Mo_takesEffect_6 zc_2 ?_
  refine g_iald (pc := 7) (f := (x.2 35)) hX 19 rfl h d_Mo_takesEffect_7 (fun h => ?_)
  refine g_imul (pc := 8) hX d_Mo_takesEffect_8 ?_
  refine g_iadd (pc := 9) hX d_Mo_takesEffect_9 ?_
  refine g_istore_n (pc := 10) (L' := [(1, .int (((3 : Int32) + ((5 : Int32) * (((x.2 35)) ((2 : Int32)).toNatClampNeg))))), (0, .ref ((q 0)))]) hX d_Mo_takesEffect_10 rfl rfl rfl ?_
  refine g_aload_n (pc := 11) hX d_Mo_takesEffect_11 rfl 1 rfl ?_
  refine gf_Mo_231 (pc := 12) (v := .int ((x.1 37))) hX 0 rfl rfl d_Mo_takesEffect_12 ?_
  refine g_aload_n (pc := 15) hX d_Mo_takesEffect_15 rfl 1 rfl ?_
  refine gf_Mo_224 (pc := 16) (v := .int ((x.1 36))) hX 0 rfl rfl d_Mo_takesEffect_16 ?_
  refine g_icmp_ge (pc := 19) (tgt := 34) hX d_Mo_takesEffect_19 (by decide) h (fun c1 h => ?_) (fun c1 h => ?_)
  · refine g_iconst (pc := 34) hX d_Mo_takesEffect_34 zc_m1 ?_
    refine g_ls (L' := [(0, .ref ((q 0))), (1, .int (((3 : Int32) + ((5 : Int32) * (((x.2 35)) ((2 : Int32)).toNatClampNeg)))))]) [1, 0] rfl ?_
    exact w_Mo_takesEffect_35 hX hR _ _ _ h
  · refine g_aload_n (pc := 22) hX d_Mo_takesEffect_22 rfl 1 rfl ?_
    refine gf_Mo_65 (pc := 23) (v := .ref ((q 18))) hX 0 rfl rfl d_Mo_takesEffect_23 ?_
    refine g_aload_n (pc := 26) hX d_Mo_takesEffect_26 rfl 1 rfl ?_
    refine gf_Mo_231 (pc := 27) (v := .int ((x.1 37))) hX 0 rfl rfl d_Mo_takesEffect_27 ?_
    refine g_iald (pc := 30) (f := (x.2 34)) hX 18 rfl h d_Mo_takesEffect_30 (fun h => ?_)
    refine g_goto (pc := 31) (tgt := 35) hX d_Mo_takesEffect_31 (by decide) ?_
    refine g_ls (L' := [(0, .ref ((q 0))), (1, .int (((3 : Int32) + ((5 : Int32) * (((x.2 35)) ((2 : Int32)).toNatClampNeg)))))]) [1, 0] rfl ?_
    exact w_Mo_takesEffect_35 hX hR _ _ _ h)
theorem d_Mo_shapeOf_0 : decode zb_Mo_shapeOf 0 = .ok (.iload_n 0, 1) := by decide +kernel
theorem d_Mo_shapeOf_1 : decode zb_Mo_shapeOf 1 = .ok (.bipush 115, 2) := by decide +kernel
theorem d_Mo_shapeOf_3 : decode zb_Mo_shapeOf 3 = .ok (.if_icmp .ne 7, 3) := by decide +kernel
theorem d_Mo_shapeOf_6 : decode zb_Mo_shapeOf 6 = .ok (.iconst 0, 1) := by decide +kernel
theorem d_Mo_shapeOf_7 : decode zb_Mo_shapeOf 7 = .ok (.goto 34, 3) := by decide +kernel
theorem d_Mo_shapeOf_10 : decode zb_Mo_shapeOf 10 = .ok (.iload_n 0, 1) := by decide +kernel
theorem d_Mo_shapeOf_11 : decode zb_Mo_shapeOf 11 = .ok (.bipush 100, 2) := by decide +kernel
theorem d_Mo_shapeOf_13 : decode zb_Mo_shapeOf 13 = .ok (.if_icmp .ne 7, 3) := by decide +kernel
theorem d_Mo_shapeOf_16 : decode zb_Mo_shapeOf 16 = .ok (.iconst 1, 1) := by decide +kernel
theorem d_Mo_shapeOf_17 : decode zb_Mo_shapeOf 17 = .ok (.goto 24, 3) := by decide +kernel
theorem d_Mo_shapeOf_20 : decode zb_Mo_shapeOf 20 = .ok (.iload_n 0, 1) := by decide +kernel
theorem d_Mo_shapeOf_21 : decode zb_Mo_shapeOf 21 = .ok (.bipush 99, 2) := by decide +kernel
theorem d_Mo_shapeOf_23 : decode zb_Mo_shapeOf 23 = .ok (.if_icmp .ne 7, 3) := by decide +kernel
theorem d_Mo_shapeOf_26 : decode zb_Mo_shapeOf 26 = .ok (.iconst 2, 1) := by decide +kernel
theorem d_Mo_shapeOf_27 : decode zb_Mo_shapeOf 27 = .ok (.goto 14, 3) := by decide +kernel
theorem d_Mo_shapeOf_30 : decode zb_Mo_shapeOf 30 = .ok (.iload_n 0, 1) := by decide +kernel
theorem d_Mo_shapeOf_31 : decode zb_Mo_shapeOf 31 = .ok (.bipush 108, 2) := by decide +kernel
theorem d_Mo_shapeOf_33 : decode zb_Mo_shapeOf 33 = .ok (.if_icmp .ne 7, 3) := by decide +kernel
theorem d_Mo_shapeOf_36 : decode zb_Mo_shapeOf 36 = .ok (.iconst 3, 1) := by decide +kernel
theorem d_Mo_shapeOf_37 : decode zb_Mo_shapeOf 37 = .ok (.goto 4, 3) := by decide +kernel
theorem d_Mo_shapeOf_40 : decode zb_Mo_shapeOf 40 = .ok (.iconst (-1), 1) := by decide +kernel
theorem d_Mo_shapeOf_41 : decode zb_Mo_shapeOf 41 = .ok (.ireturn, 1) := by decide +kernel
def k_Mo_shapeOf (l0 : Int32) : Option (Int32) := (if l0 = (115 : Int32) then some ((0 : Int32)) else (if l0 = (100 : Int32) then some ((1 : Int32)) else (if l0 = (99 : Int32) then some ((2 : Int32)) else (if l0 = (108 : Int32) then some ((3 : Int32)) else some ((-1 : Int32))))))
set_option maxRecDepth 20000 in
theorem c_Mo_shapeOf (c : zY) (l0 : Int32) {out : Int32} (h : k_Mo_shapeOf l0 = some out) : KM zy_Mo_shapeOf zb_Mo_shapeOf 1 (some .int) 0 c [.int l0] [] [] (some (.int out)) := zK_of zp_Mo rfl (Nat.le_of_ble_eq_true rfl) rfl (fun X hX hR => by
  show Go X [] [(0, .int l0)] 0 []
  rw [k_Mo_shapeOf] at h
  refine g_iload_n (pc := 0) hX d_Mo_shapeOf_0 rfl 0 rfl ?_
  refine g_bipush (pc := 1) hX d_Mo_shapeOf_1 ze_115 ?_
  refine g_icmp_ne (pc := 3) (tgt := 10) hX d_Mo_shapeOf_3 (by decide) h (fun c1 h => ?_) (fun c1 h => ?_)
  · refine g_iload_n (pc := 10) hX d_Mo_shapeOf_10 rfl 0 rfl ?_
    refine g_bipush (pc := 11) hX d_Mo_shapeOf_11 ze_100 ?_
    refine g_icmp_ne (pc := 13) (tgt := 20) hX d_Mo_shapeOf_13 (by decide) h (fun c2 h => ?_) (fun c2 h => ?_)
    · refine g_iload_n (pc := 20) hX d_Mo_shapeOf_20 rfl 0 rfl ?_
      refine g_bipush (pc := 21) hX d_Mo_shapeOf_21 ze_99 ?_
      refine g_icmp_ne (pc := 23) (tgt := 30) hX d_Mo_shapeOf_23 (by decide) h (fun c3 h => ?_) (fun c3 h => ?_)
      · refine g_iload_n (pc := 30) hX d_Mo_shapeOf_30 rfl 0 rfl ?_
        refine g_bipush (pc := 31) hX d_Mo_shapeOf_31 ze_108 ?_
        refine g_icmp_ne (pc := 33) (tgt := 40) hX d_Mo_shapeOf_33 (by decide) h (fun c4 h => ?_) (fun c4 h => ?_)
        · refine g_iconst (pc := 40) hX d_Mo_shapeOf_40 zc_m1 ?_
          obtain rfl := Option.some.inj h
          exact g_iret (pc := 41) hX hR d_Mo_shapeOf_41
        · refine g_iconst (pc := 36) hX d_Mo_shapeOf_36 zc_3 ?_
          refine g_goto (pc := 37) (tgt := 41) hX d_Mo_shapeOf_37 (by decide) ?_
          obtain rfl := Option.some.inj h
          exact g_iret (pc := 41) hX hR d_Mo_shapeOf_41
      · refine g_iconst (pc := 26) hX d_Mo_shapeOf_26 zc_2 ?_
        refine g_goto (pc := 27) (tgt := 41) hX d_Mo_shapeOf_27 (by decide) ?_
        obtain rfl := Option.some.inj h
        exact g_iret (pc := 41) hX hR d_Mo_shapeOf_41
    · refine g_iconst (pc := 16) hX d_Mo_shapeOf_16 zc_1 ?_
      refine g_goto (pc := 17) (tgt := 41) hX d_Mo_shapeOf_17 (by decide) ?_
      obtain rfl := Option.some.inj h
      exact g_iret (pc := 41) hX hR d_Mo_shapeOf_41
  · refine g_iconst (pc := 6) hX d_Mo_shapeOf_6 zc_0 ?_
    refine g_goto (pc := 7) (tgt := 41) hX d_Mo_shapeOf_7 (by decide) ?_
    obtain rfl := Option.some.inj h
    exact g_iret (pc := 41) hX hR d_Mo_shapeOf_41)
theorem d_Mo_takesPower_0 : decode zb_Mo_takesPower 0 = .ok (.iconst 0, 1) := by decide +kernel
theorem d_Mo_takesPower_1 : decode zb_Mo_takesPower 1 = .ok (.istore_n 1, 1) := by decide +kernel
theorem d_Mo_takesPower_2 : decode zb_Mo_takesPower 2 = .ok (.iload_n 1, 1) := by decide +kernel
theorem d_Mo_takesPower_3 : decode zb_Mo_takesPower 3 = .ok (.bipush 25, 2) := by decide +kernel
theorem d_Mo_takesPower_5 : decode zb_Mo_takesPower 5 = .ok (.if_icmp .ge 16, 3) := by decide +kernel
theorem d_Mo_takesPower_8 : decode zb_Mo_takesPower 8 = .ok (.aload_n 0, 1) := by decide +kernel
theorem d_Mo_takesPower_9 : decode zb_Mo_takesPower 9 = .ok (.getfield 68, 3) := by decide +kernel
theorem d_Mo_takesPower_12 : decode zb_Mo_takesPower 12 = .ok (.iload_n 1, 1) := by decide +kernel
theorem d_Mo_takesPower_13 : decode zb_Mo_takesPower 13 = .ok (.iconst 0, 1) := by decide +kernel
theorem d_Mo_takesPower_14 : decode zb_Mo_takesPower 14 = .ok (.iastore, 1) := by decide +kernel
theorem d_Mo_takesPower_15 : decode zb_Mo_takesPower 15 = .ok (.iinc 1 1, 3) := by decide +kernel
theorem d_Mo_takesPower_18 : decode zb_Mo_takesPower 18 = .ok (.goto (-16), 3) := by decide +kernel
theorem d_Mo_takesPower_21 : decode zb_Mo_takesPower 21 = .ok (.aload_n 0, 1) := by decide +kernel
theorem d_Mo_takesPower_22 : decode zb_Mo_takesPower 22 = .ok (.iconst 0, 1) := by decide +kernel
theorem d_Mo_takesPower_23 : decode zb_Mo_takesPower 23 = .ok (.putfield 231, 3) := by decide +kernel
theorem d_Mo_takesPower_26 : decode zb_Mo_takesPower 26 = .ok (.aload_n 0, 1) := by decide +kernel
theorem d_Mo_takesPower_27 : decode zb_Mo_takesPower 27 = .ok (.getfield 68, 3) := by decide +kernel
theorem d_Mo_takesPower_30 : decode zb_Mo_takesPower 30 = .ok (.iconst 0, 1) := by decide +kernel
theorem d_Mo_takesPower_31 : decode zb_Mo_takesPower 31 = .ok (.aload_n 0, 1) := by decide +kernel
theorem d_Mo_takesPower_32 : decode zb_Mo_takesPower 32 = .ok (.getfield 224, 3) := by decide +kernel
theorem d_Mo_takesPower_35 : decode zb_Mo_takesPower 35 = .ok (.ifCond .le 15, 3) := by decide +kernel
theorem d_Mo_takesPower_38 : decode zb_Mo_takesPower 38 = .ok (.aload_n 0, 1) := by decide +kernel
theorem d_Mo_takesPower_39 : decode zb_Mo_takesPower 39 = .ok (.getfield 65, 3) := by decide +kernel
theorem d_Mo_takesPower_42 : decode zb_Mo_takesPower 42 = .ok (.iconst 0, 1) := by decide +kernel
theorem d_Mo_takesPower_43 : decode zb_Mo_takesPower 43 = .ok (.iaload, 1) := by decide +kernel
theorem d_Mo_takesPower_44 : decode zb_Mo_takesPower 44 = .ok (.invokestatic 240, 3) := by decide +kernel
theorem d_Mo_takesPower_47 : decode zb_Mo_takesPower 47 = .ok (.goto 4, 3) := by decide +kernel
theorem d_Mo_takesPower_50 : decode zb_Mo_takesPower 50 = .ok (.iconst (-1), 1) := by decide +kernel
theorem d_Mo_takesPower_51 : decode zb_Mo_takesPower 51 = .ok (.iastore, 1) := by decide +kernel
theorem d_Mo_takesPower_52 : decode zb_Mo_takesPower 52 = .ok (.aload_n 0, 1) := by decide +kernel
theorem d_Mo_takesPower_53 : decode zb_Mo_takesPower 53 = .ok (.getfield 68, 3) := by decide +kernel
theorem d_Mo_takesPower_56 : decode zb_Mo_takesPower 56 = .ok (.iconst 0, 1) := by decide +kernel
theorem d_Mo_takesPower_57 : decode zb_Mo_takesPower 57 = .ok (.iaload, 1) := by decide +kernel
theorem d_Mo_takesPower_58 : decode zb_Mo_takesPower 58 = .ok (.ifCond .ge 5, 3) := by decide +kernel
theorem d_Mo_takesPower_61 : decode zb_Mo_takesPower 61 = .ok (.iconst 0, 1) := by decide +kernel
theorem d_Mo_takesPower_62 : decode zb_Mo_takesPower 62 = .ok (.ireturn, 1) := by decide +kernel
theorem d_Mo_takesPower_63 : decode zb_Mo_takesPower 63 = .ok (.aload_n 0, 1) := by decide +kernel
theorem d_Mo_takesPower_64 : decode zb_Mo_takesPower 64 = .ok (.iconst 1, 1) := by decide +kernel
theorem d_Mo_takesPower_65 : decode zb_Mo_takesPower 65 = .ok (.putfield 231, 3) := by decide +kernel
theorem d_Mo_takesPower_68 : decode zb_Mo_takesPower 68 = .ok (.aload_n 0, 1) := by decide +kernel
theorem d_Mo_takesPower_69 : decode zb_Mo_takesPower 69 = .ok (.iconst 1, 1) := by decide +kernel
theorem d_Mo_takesPower_70 : decode zb_Mo_takesPower 70 = .ok (.iconst 0, 1) := by decide +kernel
theorem d_Mo_takesPower_71 : decode zb_Mo_takesPower 71 = .ok (.iconst 5, 1) := by decide +kernel
theorem d_Mo_takesPower_72 : decode zb_Mo_takesPower 72 = .ok (.invokevirtual 234, 3) := by decide +kernel
theorem d_Mo_takesPower_75 : decode zb_Mo_takesPower 75 = .ok (.ifCond .eq 12, 3) := by decide +kernel
theorem d_Mo_takesPower_78 : decode zb_Mo_takesPower 78 = .ok (.aload_n 0, 1) := by decide +kernel
theorem d_Mo_takesPower_79 : decode zb_Mo_takesPower 79 = .ok (.bipush 58, 2) := by decide +kernel
theorem d_Mo_takesPower_81 : decode zb_Mo_takesPower 81 = .ok (.invokevirtual 243, 3) := by decide +kernel
theorem d_Mo_takesPower_84 : decode zb_Mo_takesPower 84 = .ok (.ifCond .ne 5, 3) := by decide +kernel
theorem d_Mo_takesPower_87 : decode zb_Mo_takesPower 87 = .ok (.iconst 0, 1) := by decide +kernel
theorem d_Mo_takesPower_88 : decode zb_Mo_takesPower 88 = .ok (.ireturn, 1) := by decide +kernel
theorem d_Mo_takesPower_89 : decode zb_Mo_takesPower 89 = .ok (.aload_n 0, 1) := by decide +kernel
theorem d_Mo_takesPower_90 : decode zb_Mo_takesPower 90 = .ok (.invokevirtual 246, 3) := by decide +kernel
theorem d_Mo_takesPower_93 : decode zb_Mo_takesPower 93 = .ok (.ifCond .ne 5, 3) := by decide +kernel
theorem d_Mo_takesPower_96 : decode zb_Mo_takesPower 96 = .ok (.iconst 0, 1) := by decide +kernel
theorem d_Mo_takesPower_97 : decode zb_Mo_takesPower 97 = .ok (.ireturn, 1) := by decide +kernel
theorem d_Mo_takesPower_98 : decode zb_Mo_takesPower 98 = .ok (.aload_n 0, 1) := by decide +kernel
theorem d_Mo_takesPower_99 : decode zb_Mo_takesPower 99 = .ok (.getfield 68, 3) := by decide +kernel
theorem d_Mo_takesPower_102 : decode zb_Mo_takesPower 102 = .ok (.iconst 2, 1) := by decide +kernel
theorem d_Mo_takesPower_103 : decode zb_Mo_takesPower 103 = .ok (.iaload, 1) := by decide +kernel
theorem d_Mo_takesPower_104 : decode zb_Mo_takesPower 104 = .ok (.iconst 4, 1) := by decide +kernel
theorem d_Mo_takesPower_105 : decode zb_Mo_takesPower 105 = .ok (.if_icmp .ge 12, 3) := by decide +kernel
theorem d_Mo_takesPower_108 : decode zb_Mo_takesPower 108 = .ok (.aload_n 0, 1) := by decide +kernel
theorem d_Mo_takesPower_109 : decode zb_Mo_takesPower 109 = .ok (.bipush 44, 2) := by decide +kernel
theorem d_Mo_takesPower_111 : decode zb_Mo_takesPower 111 = .ok (.invokevirtual 243, 3) := by decide +kernel
theorem d_Mo_takesPower_114 : decode zb_Mo_takesPower 114 = .ok (.ifCond .ne (-25), 3) := by decide +kernel
theorem d_Mo_takesPower_117 : decode zb_Mo_takesPower 117 = .ok (.aload_n 0, 1) := by decide +kernel
theorem d_Mo_takesPower_118 : decode zb_Mo_takesPower 118 = .ok (.bipush 36, 2) := by decide +kernel
theorem d_Mo_takesPower_120 : decode zb_Mo_takesPower 120 = .ok (.invokevirtual 243, 3) := by decide +kernel
theorem d_Mo_takesPower_123 : decode zb_Mo_takesPower 123 = .ok (.ifCond .eq 28, 3) := by decide +kernel
theorem d_Mo_takesPower_126 : decode zb_Mo_takesPower 126 = .ok (.aload_n 0, 1) := by decide +kernel
theorem d_Mo_takesPower_127 : decode zb_Mo_takesPower 127 = .ok (.bipush 23, 2) := by decide +kernel
theorem d_Mo_takesPower_129 : decode zb_Mo_takesPower 129 = .ok (.iconst 0, 1) := by decide +kernel
theorem d_Mo_takesPower_130 : decode zb_Mo_takesPower 130 = .ok (.iconst 2, 1) := by decide +kernel
theorem d_Mo_takesPower_131 : decode zb_Mo_takesPower 131 = .ok (.invokevirtual 234, 3) := by decide +kernel
theorem d_Mo_takesPower_134 : decode zb_Mo_takesPower 134 = .ok (.ifCond .eq 15, 3) := by decide +kernel
theorem d_Mo_takesPower_137 : decode zb_Mo_takesPower 137 = .ok (.aload_n 0, 1) := by decide +kernel
theorem d_Mo_takesPower_138 : decode zb_Mo_takesPower 138 = .ok (.bipush 24, 2) := by decide +kernel
theorem d_Mo_takesPower_140 : decode zb_Mo_takesPower 140 = .ok (.iconst 1, 1) := by decide +kernel
theorem d_Mo_takesPower_141 : decode zb_Mo_takesPower 141 = .ok (.bipush 9, 2) := by decide +kernel
theorem d_Mo_takesPower_143 : decode zb_Mo_takesPower 143 = .ok (.invokevirtual 234, 3) := by decide +kernel
theorem d_Mo_takesPower_146 : decode zb_Mo_takesPower 146 = .ok (.ifCond .ne 5, 3) := by decide +kernel
theorem d_Mo_takesPower_149 : decode zb_Mo_takesPower 149 = .ok (.iconst 0, 1) := by decide +kernel
theorem d_Mo_takesPower_150 : decode zb_Mo_takesPower 150 = .ok (.ireturn, 1) := by decide +kernel
theorem d_Mo_takesPower_151 : decode zb_Mo_takesPower 151 = .ok (.aload_n 0, 1) := by decide +kernel
theorem d_Mo_takesPower_152 : decode zb_Mo_takesPower 152 = .ok (.getfield 231, 3) := by decide +kernel
theorem d_Mo_takesPower_155 : decode zb_Mo_takesPower 155 = .ok (.aload_n 0, 1) := by decide +kernel
theorem d_Mo_takesPower_156 : decode zb_Mo_takesPower 156 = .ok (.getfield 224, 3) := by decide +kernel
theorem d_Mo_takesPower_159 : decode zb_Mo_takesPower 159 = .ok (.if_icmp .ne 7, 3) := by decide +kernel
theorem d_Mo_takesPower_162 : decode zb_Mo_takesPower 162 = .ok (.iconst 1, 1) := by decide +kernel
theorem d_Mo_takesPower_163 : decode zb_Mo_takesPower 163 = .ok (.goto 4, 3) := by decide +kernel
theorem d_Mo_takesPower_166 : decode zb_Mo_takesPower 166 = .ok (.iconst 0, 1) := by decide +kernel
theorem d_Mo_takesPower_167 : decode zb_Mo_takesPower 167 = .ok (.ireturn, 1) := by decide +kernel
def k_Mo_takesPower_151 (x : zsM) : Option (Int32 × zsM) := (if (x.1 37) = (x.1 36) then some ((1 : Int32), x) else some ((0 : Int32), x))
set_option maxRecDepth 20000 in
theorem w_Mo_takesPower_151 {X : zX} {c : zY} {q : Nat → Nat} {out : Int32 × zsM} (hX : Ok X zr_Mo zb_Mo_takesPower 2 4 c) (hR : Rt X (some .boolean) (some (.int out.1)) (zwM c q out.2)) : ∀ (x : zsM), k_Mo_takesPower_151 x = some out → Go X (zwM c q x) [(0, .ref ((q 0)))] 151 [] := by
  intro x h
  rw [k_Mo_takesPower_151] at h
  refine g_aload_n (pc := 151) hX d_Mo_takesPower_151 rfl 0 rfl ?_
  refine gf_Mo_231 (pc := 152) (v := .int ((x.1 37))) hX 0 rfl rfl d_Mo_takesPower_152 ?_
  refine g_aload_n (pc := 155) hX d_Mo_takesPower_155 rfl 0 rfl ?_
  refine gf_Mo_224 (pc := 156) (v := .int ((x.1 36))) hX 0 rfl rfl d_Mo_takesPower_156 ?_
  refine g_icmp_ne (pc := 159) (tgt := 166) hX d_Mo_takesPower_159 (by decide) h (fun c13 h => ?_) (fun c13 h => ?_)
  · refine g_iconst (pc := 166) hX d_Mo_takesPower_166 zc_0 ?_
    obtain rfl := Option.some.inj h
    exact g_zret (pc := 167) hX hR (Or.inl rfl) d_Mo_takesPower_167
  · refine g_iconst (pc := 162) hX d_Mo_takesPower_162 zc_1 ?_
    refine g_goto (pc := 163) (tgt := 167) hX d_Mo_takesPower_163 (by decide) ?_
    obtain rfl := Option.some.inj h
    exact g_zret (pc := 167) hX hR (Or.inr rfl) d_Mo_takesPower_167
def k_Mo_takesPower_117 (x : zsM) : Option (Int32 × zsM) := (k_Mo_skips x ((36 : Int32))).bind fun o11 => (if o11.1 = 0 then k_Mo_takesPower_151 o11.2 else (k_Mo_takes o11.2 ((23 : Int32)) ((0 : Int32)) ((2 : Int32))).bind fun o14 => (if o14.1 = 0 then some ((0 : Int32), o14.2) else (k_Mo_takes o14.2 ((24 : Int32)) ((1 : Int32)) ((9 : Int32))).bind fun o16 => (if o16.1 = 0 then some ((0 : Int32), o16.2) else k_Mo_takesPower_151 o16.2)))
set_option maxRecDepth 20000 in
theorem w_Mo_takesPower_117 {X : zX} {c : zY} {q : Nat → Nat} {out : Int32 × zsM} (hX : Ok X zr_Mo zb_Mo_takesPower 2 4 c) (hR : Rt X (some .boolean) (some (.int out.1)) (zwM c q out.2)) : ∀ (x : zsM), k_Mo_takesPower_117 x = some out → Go X (zwM c q x) [(0, .ref ((q 0)))] 117 [] := by
  intro x h
  rw [k_Mo_takesPower_117] at h
  refine g_aload_n (pc := 117) hX d_Mo_takesPower_117 rfl 0 rfl ?_
  refine g_bipush (pc := 118) hX d_Mo_takesPower_118 ze_36 ?_
  obtain ⟨o11, e11, h⟩ := zbind h
  refine g_cvI (pc := 120) (w1 := []) (w2 := []) (st := []) (w' := (zwM c q o11.2)) hX zk_Mo_skips zs_Mo_skips zL_Mo_243 (c_Mo_skips c q x ((36 : Int32)) e11) rfl rfl rfl rfl (zself _) (zself _).symm 0 10 rfl rfl rfl d_Mo_takesPower_120 ?_
  refine g_if_eq (pc := 123) (tgt := 151) hX d_Mo_takesPower_123 (by decide) h (fun c12 h => ?_) (fun c12 h => ?_)
  · exact w_Mo_takesPower_151 hX hR _ h
  · refine g_aload_n (pc := 126) hX d_Mo_takesPower_126 rfl 0 rfl ?_
    refine g_bipush (pc := 127) hX d_Mo_takesPower_127 ze_23 ?_
    refine g_iconst (pc := 129) hX d_Mo_takesPower_129 zc_0 ?_
    refine g_iconst (pc := 130) hX d_Mo_takesPower_130 zc_2 ?_
    obtain ⟨o14, e14, h⟩ := zbind h
    refine g_cvI (pc := 131) (w1 := []) (w2 := []) (st := []) (w' := (zwM c q o14.2)) hX zk_Mo_takes zs_Mo_takes zL_Mo_234 (c_Mo_takes c q o11.2 ((23 : Int32)) ((0 : Int32)) ((2 : Int32)) e14) rfl rfl rfl rfl (zself _) (zself _).symm 0 10 rfl rfl rfl d_Mo_takesPower_131 ?_
    refine g_if_eq (pc := 134) (tgt := 149) hX d_Mo_takesPower_134 (by decide) h (fun c15 h => ?_) (fun c15 h => ?_)
    · refine g_iconst (pc := 149) hX d_Mo_takesPower_149 zc_0 ?_
      obtain rfl := Option.some.inj h
      exact g_zret (pc := 150) hX hR (Or.inl rfl) d_Mo_takesPower_150
    · refine g_aload_n (pc := 137) hX d_Mo_takesPower_137 rfl 0 rfl ?_
      refine g_bipush (pc := 138) hX d_Mo_takesPower_138 ze_24 ?_
      refine g_iconst (pc := 140) hX d_Mo_takesPower_140 zc_1 ?_
      refine g_bipush (pc := 141) hX d_Mo_takesPower_141 ze_9 ?_
      obtain ⟨o16, e16, h⟩ := zbind h
      refine g_cvI (pc := 143) (w1 := []) (w2 := []) (st := []) (w' := (zwM c q o16.2)) hX zk_Mo_takes zs_Mo_takes zL_Mo_234 (c_Mo_takes c q o14.2 ((24 : Int32)) ((1 : Int32)) ((9 : Int32)) e16) rfl rfl rfl rfl (zself _) (zself _).symm 0 10 rfl rfl rfl d_Mo_takesPower_143 ?_
      refine g_if_ne (pc := 146) (tgt := 151) hX d_Mo_takesPower_146 (by decide) h (fun c17 h => ?_) (fun c17 h => ?_)
      · exact w_Mo_takesPower_151 hX hR _ h
      · refine g_iconst (pc := 149) hX d_Mo_takesPower_149 zc_0 ?_
        obtain rfl := Option.some.inj h
        exact g_zret (pc := 150) hX hR (Or.inl rfl) d_Mo_takesPower_150
def k_Mo_takesPower_89 : Nat → zsM → Option (Int32 × zsM)
  | 0, _ => none
  | fu + 1, x => (k_Mo_takesEffect x).bind fun o8 => (if o8.1 = 0 then some ((0 : Int32), o8.2) else (if zOut ((2 : Int32)) 25 then none else (if (((o8.2.2 35)) ((2 : Int32)).toNatClampNeg) < (4 : Int32) then (k_Mo_skips o8.2 ((44 : Int32))).bind fun o18 => (if o18.1 = 0 then k_Mo_takesPower_117 o18.2 else k_Mo_takesPower_89 fu o18.2) else k_Mo_takesPower_117 o8.2)))
set_option maxRecDepth 20000 in
theorem w_Mo_takesPower_89 {X : zX} {c : zY} {q : Nat → Nat} {out : Int32 × zsM} (hX : Ok X zr_Mo zb_Mo_takesPower 2 4 c) (hR : Rt X (some .boolean) (some (.int out.1)) (zwM c q out.2)) : ∀ (fu : Nat) (x : zsM), k_Mo_takesPower_89 fu x = some out → Go X (zwM c q x) [(0, .ref ((q 0)))] 89 [] := by
  intro fu
  induction fu with
  | zero => intro x h; rw [k_Mo_takesPower_89] at h; cases h
  | succ fu ih =>
    intro x h
    rw [k_Mo_takesPower_89] at h
    refine g_aload_n (pc := 89) hX d_Mo_takesPower_89 rfl 0 rfl ?_
    obtain ⟨o8, e8, h⟩ := zbind h
    refine g_cvI (pc := 90) (w1 := []) (w2 := []) (st := []) (w' := (zwM c q o8.2)) hX zk_Mo_takesEffect zs_Mo_takesEffect zL_Mo_246 (c_Mo_takesEffect c q x e8) rfl rfl rfl rfl (zself _) (zself _).symm 0 10 rfl rfl rfl d_Mo_takesPower_90 ?_
    refine g_if_ne (pc := 93) (tgt := 98) hX d_Mo_takesPower_93 (by decide) h (fun c9 h => ?_) (fun c9 h => ?_)
    · refine g_aload_n (pc := 98) hX d_Mo_takesPower_98 rfl 0 rfl ?_
      refine gf_Mo_68 (pc := 99) (v := .ref ((q 19))) hX 0 rfl rfl d_Mo_takesPower_99 ?_
      refine g_iconst (pc := 102) hX d_Mo_takesPower_102 zc_2 ?_
      refine g_iald (pc := 103) (f := (o8.2.2 35)) hX 19 rfl h d_Mo_takesPower_103 (fun h => ?_)
      refine g_iconst (pc := 104) hX d_Mo_takesPower_104 zc_4 ?_
      refine g_icmp_ge (pc := 105) (tgt := 117) hX d_Mo_takesPower_105 (by decide) h (fun c10 h => ?_) (fun c10 h => ?_)
      · exact w_Mo_takesPower_117 hX hR _ h
      · refine g_aload_n (pc := 108) hX d_Mo_takesPower_108 rfl 0 rfl ?_
        refine g_bipush (pc := 109) hX d_Mo_takesPower_109 ze_44 ?_
        obtain ⟨o18, e18, h⟩ := zbind h
        refine g_cvI (pc := 111) (w1 := []) (w2 := []) (st := []) (w' := (zwM c q o18.2)) hX zk_Mo_skips zs_Mo_skips zL_Mo_243 (c_Mo_skips c q o8.2 ((44 : Int32)) e18) rfl rfl rfl rfl (zself _) (zself _).symm 0 10 rfl rfl rfl d_Mo_takesPower_111 ?_
        refine g_if_ne (pc := 114) (tgt := 89) hX d_Mo_takesPower_114 (by decide) h (fun c19 h => ?_) (fun c19 h => ?_)
        · exact ih _ h
        · exact w_Mo_takesPower_117 hX hR _ h
    · refine g_iconst (pc := 96) hX d_Mo_takesPower_96 zc_0 ?_
      obtain rfl := Option.some.inj h
      exact g_zret (pc := 97) hX hR (Or.inl rfl) d_Mo_takesPower_97
def k_Mo_takesPower_51 (s0 : Int32) (s1 : Int32) (x : zsM) : Option (Int32 × zsM) := (if zOut s1 25 then none else (if zOut ((0 : Int32)) 25 then none else (if (((upd ((x.2 35)) s1.toNatClampNeg s0)) ((0 : Int32)).toNatClampNeg) < 0 then some ((0 : Int32), (x.1, (va_up x.2 35 (upd ((x.2 35)) s1.toNatClampNeg s0)))) else (k_Mo_takes (((upd x.1 37 ((1 : Int32))), (va_up x.2 35 (upd ((x.2 35)) s1.toNatClampNeg s0)))) ((1 : Int32)) ((0 : Int32)) ((5 : Int32))).bind fun o4 => (if o4.1 = 0 then some ((0 : Int32), o4.2) else (k_Mo_skips o4.2 ((58 : Int32))).bind fun o6 => (if o6.1 = 0 then some ((0 : Int32), o6.2) else k_Mo_takesPower_89 zFu o6.2)))))
set_option maxRecDepth 20000 in
theorem w_Mo_takesPower_51 {X : zX} {c : zY} {q : Nat → Nat} {out : Int32 × zsM} (hX : Ok X zr_Mo zb_Mo_takesPower 2 4 c) (hR : Rt X (some .boolean) (some (.int out.1)) (zwM c q out.2)) : ∀ (s0 : Int32) (s1 : Int32) (x : zsM), k_Mo_takesPower_51 s0 s1 x = some out → Go X (zwM c q x) [(0, .ref ((q 0)))] 51 [.int s0, .int s1, .ref ((q 19))] := by
  intro s0 s1 x h
  rw [k_Mo_takesPower_51] at h
  refine g_iast (pc := 51) (f := (x.2 35)) (w' := (zwM c q ((x.1, (va_up x.2 35 (upd ((x.2 35)) s1.toNatClampNeg s0)))))) hX 19 rfl h (sa_Mo_19 c q x (upd ((x.2 35)) s1.toNatClampNeg s0)) d_Mo_takesPower_51 (fun h => ?_)
  refine g_aload_n (pc := 52) hX d_Mo_takesPower_52 rfl 0 rfl ?_
  refine gf_Mo_68 (pc := 53) (v := .ref ((q 19))) hX 0 rfl rfl d_Mo_takesPower_53 ?_
  refine g_iconst (pc := 56) hX d_Mo_takesPower_56 zc_0 ?_
  refine g_iald (pc := 57) (f := (upd ((x.2 35)) s1.toNatClampNeg s0)) hX 19 rfl h d_Mo_takesPower_57 (fun h => ?_)
  refine g_if_ge (pc := 58) (tgt := 63) hX d_Mo_takesPower_58 (by decide) h (fun c3 h => ?_) (fun c3 h => ?_)
  · refine g_aload_n (pc := 63) hX d_Mo_takesPower_63 rfl 0 rfl ?_
    refine g_iconst (pc := 64) hX d_Mo_takesPower_64 zc_1 ?_
    refine pf_Mo_231 (pc := 65) (w2 := (zwM c q (((upd x.1 37 ((1 : Int32))), (va_up x.2 35 (upd ((x.2 35)) s1.toNatClampNeg s0)))))) hX 0 rfl rfl (su_Mo_0_37 c q ((x.1, (va_up x.2 35 (upd ((x.2 35)) s1.toNatClampNeg s0)))) ((1 : Int32))) d_Mo_takesPower_65 ?_
    refine g_aload_n (pc := 68) hX d_Mo_takesPower_68 rfl 0 rfl ?_
    refine g_iconst (pc := 69) hX d_Mo_takesPower_69 zc_1 ?_
    refine g_iconst (pc := 70) hX d_Mo_takesPower_70 zc_0 ?_
    refine g_iconst (pc := 71) hX d_Mo_takesPower_71 zc_5 ?_
    obtain ⟨o4, e4, h⟩ := zbind h
    refine g_cvI (pc := 72) (w1 := []) (w2 := []) (st := []) (w' := (zwM c q o4.2)) hX zk_Mo_takes zs_Mo_takes zL_Mo_234 (c_Mo_takes c q (((upd x.1 37 ((1 : Int32))), (va_up x.2 35 (upd ((x.2 35)) s1.toNatClampNeg s0)))) ((1 : Int32)) ((0 : Int32)) ((5 : Int32)) e4) rfl rfl rfl rfl (zself _) (zself _).symm 0 10 rfl rfl rfl d_Mo_takesPower_72 ?_
    refine g_if_eq (pc := 75) (tgt := 87) hX d_Mo_takesPower_75 (by decide) h (fun c5 h => ?_) (fun c5 h => ?_)
    · refine g_iconst (pc := 87) hX d_Mo_takesPower_87 zc_0 ?_
      obtain rfl := Option.some.inj h
      exact g_zret (pc := 88) hX hR (Or.inl rfl) d_Mo_takesPower_88
    · refine g_aload_n (pc := 78) hX d_Mo_takesPower_78 rfl 0 rfl ?_
      refine g_bipush (pc := 79) hX d_Mo_takesPower_79 ze_58 ?_
      obtain ⟨o6, e6, h⟩ := zbind h
      refine g_cvI (pc := 81) (w1 := []) (w2 := []) (st := []) (w' := (zwM c q o6.2)) hX zk_Mo_skips zs_Mo_skips zL_Mo_243 (c_Mo_skips c q o4.2 ((58 : Int32)) e6) rfl rfl rfl rfl (zself _) (zself _).symm 0 10 rfl rfl rfl d_Mo_takesPower_81 ?_
      refine g_if_ne (pc := 84) (tgt := 89) hX d_Mo_takesPower_84 (by decide) h (fun c7 h => ?_) (fun c7 h => ?_)
      · exact w_Mo_takesPower_89 hX hR _ _ h
      · refine g_iconst (pc := 87) hX d_Mo_takesPower_87 zc_0 ?_
        obtain rfl := Option.some.inj h
        exact g_zret (pc := 88) hX hR (Or.inl rfl) d_Mo_takesPower_88
  · refine g_iconst (pc := 61) hX d_Mo_takesPower_61 zc_0 ?_
    obtain rfl := Option.some.inj h
    exact g_zret (pc := 62) hX hR (Or.inl rfl) d_Mo_takesPower_62
def k_Mo_takesPower_2 : Nat → Int32 → zsM → Option (Int32 × zsM)
  | 0, _, _ => none
  | fu + 1, l1, x => (if l1 < (25 : Int32) then (if zOut l1 25 then none else k_Mo_takesPower_2 fu ((l1 + (1 : Int32))) ((x.1, (va_up x.2 35 (upd ((x.2 35)) l1.toNatClampNeg ((0 : Int32))))))) else (if 0 < (x.1 36) then (if zOut ((0 : Int32)) 40 then none else (k_Mo_shapeOf ((((x.2 34)) ((0 : Int32)).toNatClampNeg))).bind fun o20 => k_Mo_takesPower_51 o20 ((0 : Int32)) (((upd x.1 37 ((0 : Int32))), x.2))) else k_Mo_takesPower_51 ((-1 : Int32)) ((0 : Int32)) (((upd x.1 37 ((0 : Int32))), x.2))))
set_option maxRecDepth 20000 in
theorem w_Mo_takesPower_2 {X : zX} {c : zY} {q : Nat → Nat} {out : Int32 × zsM} (hX : Ok X zr_Mo zb_Mo_takesPower 2 4 c) (hR : Rt X (some .boolean) (some (.int out.1)) (zwM c q out.2)) : ∀ (fu : Nat) (l1 : Int32) (x : zsM), k_Mo_takesPower_2 fu l1 x = some out → Go X (zwM c q x) [(0, .ref ((q 0))), (1, .int l1)] 2 [] := by
  intro fu
  induction fu with
  | zero => intro l1 x h; rw [k_Mo_takesPower_2] at h; cases h
  | succ fu ih =>
    intro l1 x h
    rw [k_Mo_takesPower_2] at h
    refine g_iload_n (pc := 2) hX d_Mo_takesPower_2 rfl 1 rfl ?_
    refine g_bipush (pc := 3) hX d_Mo_takesPower_3 ze_25 ?_
    refine g_icmp_ge (pc := 5) (tgt := 21) hX d_Mo_takesPower_5 (by decide) h (fun c1 h => ?_) (fun c1 h => ?_)
    · refine g_aload_n (pc := 21) hX d_Mo_takesPower_21 rfl 0 rfl ?_
      refine g_iconst (pc := 22) hX d_Mo_takesPower_22 zc_0 ?_
      refine pf_Mo_231 (pc := 23) (w2 := (zwM c q (((upd x.1 37 ((0 : Int32))), x.2)))) hX 0 rfl rfl (su_Mo_0_37 c q x ((0 : Int32))) d_Mo_takesPower_23 ?_
      refine g_aload_n (pc := 26) hX d_Mo_takesPower_26 rfl 0 rfl ?_
      refine gf_Mo_68 (pc := 27) (v := .ref ((q 19))) hX 0 rfl rfl d_Mo_takesPower_27 ?_
      refine g_iconst (pc := 30) hX d_Mo_takesPower_30 zc_0 ?_
      refine g_aload_n (pc := 31) hX d_Mo_takesPower_31 rfl 0 rfl ?_
      refine gf_Mo_224 (pc := 32) (v := .int ((x.1 36))) hX 0 rfl rfl d_Mo_takesPower_32 ?_
      refine g_if_le (pc := 35) (tgt := 50) hX d_Mo_takesPower_35 (by decide) h (fun c2 h => ?_) (fun c2 h => ?_)
      · refine g_iconst (pc := 50) hX d_Mo_takesPower_50 zc_m1 ?_
        refine g_ls (L' := [(0, .ref ((q 0)))]) [0] rfl ?_
        exact w_Mo_takesPower_51 hX hR _ _ _ h
      · refine g_aload_n (pc := 38) hX d_Mo_takesPower_38 rfl 0 rfl ?_
        refine gf_Mo_65 (pc := 39) (v := .ref ((q 18))) hX 0 rfl rfl d_Mo_takesPower_39 ?_
        refine g_iconst (pc := 42) hX d_Mo_takesPower_42 zc_0 ?_
        refine g_iald (pc := 43) (f := (x.2 34)) hX 18 rfl h d_Mo_takesPower_43 (fun h => ?_)
        obtain ⟨o20, e20, h⟩ := zbind h
        refine g_csI (pc := 44) (st := [.int ((0 : Int32)), .ref ((q 19))]) hX zk_Mo_shapeOf zL_Mo_240 (c_Mo_shapeOf c ((((x.2 34)) ((0 : Int32)).toNatClampNeg)) e20) rfl rfl rfl rfl rfl d_Mo_takesPower_44 ?_
        refine g_goto (pc := 47) (tgt := 51) hX d_Mo_takesPower_47 (by decide) ?_
        refine g_ls (L' := [(0, .ref ((q 0)))]) [0] rfl ?_
        exact w_Mo_takesPower_51 hX hR _ _ _ h
    · refine g_aload_n (pc := 8) hX d_Mo_takesPower_8 rfl 0 rfl ?_
      refine gf_Mo_68 (pc := 9) (v := .ref ((q 19))) hX 0 rfl rfl d_Mo_takesPower_9 ?_
      refine g_iload_n (pc := 12) hX d_Mo_takesPower_12 rfl 1 rfl ?_
      refine g_iconst (pc := 13) hX d_Mo_takesPower_13 zc_0 ?_
      refine g_iast (pc := 14) (f := (x.2 35)) (w' := (zwM c q ((x.1, (va_up x.2 35 (upd ((x.2 35)) l1.toNatClampNeg ((0 : Int32)))))))) hX 19 rfl h (sa_Mo_19 c q x (upd ((x.2 35)) l1.toNatClampNeg ((0 : Int32)))) d_Mo_takesPower_14 (fun h => ?_)
      refine g_iinc (pc := 15) (q := 1) (L' := [(1, .int ((l1 + (1 : Int32)))), (0, .ref ((q 0)))]) hX d_Mo_takesPower_15 rfl zc_1 rfl rfl ?_
      refine g_goto (pc := 18) (tgt := 2) hX d_Mo_takesPower_18 (by decide) ?_
      refine g_ls (L' := [(0, .ref ((q 0))), (1, .int ((l1 + (1 : Int32))))]) [1, 0] rfl ?_
      exact ih _ _ h
def k_Mo_takesPower (x : zsM) : Option (Int32 × zsM) := k_Mo_takesPower_2 zFu ((0 : Int32)) x
set_option maxRecDepth 20000 in
theorem c_Mo_takesPower (c : zY) (q : Nat → Nat) (x : zsM) {out : Int32 × zsM} (h : k_Mo_takesPower x = some out) : KM zy_Mo_takesPower zb_Mo_takesPower 2 (some .boolean) 4 c [.ref ((q 0))] (zwM c q x) (zwM c q out.2) (some (.int out.1)) := zK_of zp_Mo rfl (Nat.le_of_ble_eq_true rfl) (zq_Mo c q _ _) (fun X hX hR => by
  show Go X (zwM c q x) [(0, .ref ((q 0)))] 0 []
  rw [k_Mo_takesPower] at h
  refine g_iconst (pc := 0) hX d_Mo_takesPower_0 zc_0 ?_
  refine g_istore_n (pc := 1) (L' := [(1, .int ((0 : Int32))), (0, .ref ((q 0)))]) hX d_Mo_takesPower_1 rfl rfl rfl ?_
  refine g_ls (L' := [(0, .ref ((q 0))), (1, .int ((0 : Int32)))]) [1, 0] rfl ?_
  exact w_Mo_takesPower_2 hX hR _ _ _ h)
theorem d_Mo_power_0 : decode zb_Mo_power 0 = .ok (.iload_n 1, 1) := by decide +kernel
theorem d_Mo_power_1 : decode zb_Mo_power 1 = .ok (.iconst 0, 1) := by decide +kernel
theorem d_Mo_power_2 : decode zb_Mo_power 2 = .ok (.iconst 3, 1) := by decide +kernel
theorem d_Mo_power_3 : decode zb_Mo_power 3 = .ok (.invokestatic 84, 3) := by decide +kernel
theorem d_Mo_power_6 : decode zb_Mo_power 6 = .ok (.ifCond .ne 5, 3) := by decide +kernel
theorem d_Mo_power_9 : decode zb_Mo_power 9 = .ok (.iconst (-1), 1) := by decide +kernel
theorem d_Mo_power_10 : decode zb_Mo_power 10 = .ok (.ireturn, 1) := by decide +kernel
theorem d_Mo_power_11 : decode zb_Mo_power 11 = .ok (.aload_n 0, 1) := by decide +kernel
theorem d_Mo_power_12 : decode zb_Mo_power 12 = .ok (.invokevirtual 250, 3) := by decide +kernel
theorem d_Mo_power_15 : decode zb_Mo_power 15 = .ok (.istore_n 2, 1) := by decide +kernel
theorem d_Mo_power_16 : decode zb_Mo_power 16 = .ok (.aload_n 0, 1) := by decide +kernel
theorem d_Mo_power_17 : decode zb_Mo_power 17 = .ok (.iconst 0, 1) := by decide +kernel
theorem d_Mo_power_18 : decode zb_Mo_power 18 = .ok (.putfield 224, 3) := by decide +kernel
theorem d_Mo_power_21 : decode zb_Mo_power 21 = .ok (.iload_n 2, 1) := by decide +kernel
theorem d_Mo_power_22 : decode zb_Mo_power 22 = .ok (.ifCond .ne 11, 3) := by decide +kernel
theorem d_Mo_power_25 : decode zb_Mo_power 25 = .ok (.bipush (-100), 2) := by decide +kernel
theorem d_Mo_power_27 : decode zb_Mo_power 27 = .ok (.aload_n 0, 1) := by decide +kernel
theorem d_Mo_power_28 : decode zb_Mo_power 28 = .ok (.getfield 231, 3) := by decide +kernel
theorem d_Mo_power_31 : decode zb_Mo_power 31 = .ok (.isub, 1) := by decide +kernel
theorem d_Mo_power_32 : decode zb_Mo_power 32 = .ok (.ireturn, 1) := by decide +kernel
theorem d_Mo_power_33 : decode zb_Mo_power 33 = .ok (.aload_n 0, 1) := by decide +kernel
theorem d_Mo_power_34 : decode zb_Mo_power 34 = .ok (.invokevirtual 175, 3) := by decide +kernel
theorem d_Mo_power_37 : decode zb_Mo_power 37 = .ok (.iconst 0, 1) := by decide +kernel
theorem d_Mo_power_38 : decode zb_Mo_power 38 = .ok (.istore_n 3, 1) := by decide +kernel
theorem d_Mo_power_39 : decode zb_Mo_power 39 = .ok (.iload_n 3, 1) := by decide +kernel
theorem d_Mo_power_40 : decode zb_Mo_power 40 = .ok (.bipush 25, 2) := by decide +kernel
theorem d_Mo_power_42 : decode zb_Mo_power 42 = .ok (.if_icmp .ge 26, 3) := by decide +kernel
theorem d_Mo_power_45 : decode zb_Mo_power 45 = .ok (.aload_n 0, 1) := by decide +kernel
theorem d_Mo_power_46 : decode zb_Mo_power 46 = .ok (.getfield 62, 3) := by decide +kernel
theorem d_Mo_power_49 : decode zb_Mo_power 49 = .ok (.bipush 25, 2) := by decide +kernel
theorem d_Mo_power_51 : decode zb_Mo_power 51 = .ok (.iload_n 1, 1) := by decide +kernel
theorem d_Mo_power_52 : decode zb_Mo_power 52 = .ok (.imul, 1) := by decide +kernel
theorem d_Mo_power_53 : decode zb_Mo_power 53 = .ok (.iload_n 3, 1) := by decide +kernel
theorem d_Mo_power_54 : decode zb_Mo_power 54 = .ok (.iadd, 1) := by decide +kernel
theorem d_Mo_power_55 : decode zb_Mo_power 55 = .ok (.aload_n 0, 1) := by decide +kernel
theorem d_Mo_power_56 : decode zb_Mo_power 56 = .ok (.getfield 68, 3) := by decide +kernel
theorem d_Mo_power_59 : decode zb_Mo_power 59 = .ok (.iload_n 3, 1) := by decide +kernel
theorem d_Mo_power_60 : decode zb_Mo_power 60 = .ok (.iaload, 1) := by decide +kernel
theorem d_Mo_power_61 : decode zb_Mo_power 61 = .ok (.iastore, 1) := by decide +kernel
theorem d_Mo_power_62 : decode zb_Mo_power 62 = .ok (.iinc 3 1, 3) := by decide +kernel
theorem d_Mo_power_65 : decode zb_Mo_power 65 = .ok (.goto (-26), 3) := by decide +kernel
theorem d_Mo_power_68 : decode zb_Mo_power 68 = .ok (.aload_n 0, 1) := by decide +kernel
theorem d_Mo_power_69 : decode zb_Mo_power 69 = .ok (.dup, 1) := by decide +kernel
theorem d_Mo_power_70 : decode zb_Mo_power 70 = .ok (.getfield 253, 3) := by decide +kernel
theorem d_Mo_power_73 : decode zb_Mo_power 73 = .ok (.iconst 1, 1) := by decide +kernel
theorem d_Mo_power_74 : decode zb_Mo_power 74 = .ok (.iload_n 1, 1) := by decide +kernel
theorem d_Mo_power_75 : decode zb_Mo_power 75 = .ok (.ishl, 1) := by decide +kernel
theorem d_Mo_power_76 : decode zb_Mo_power 76 = .ok (.ior, 1) := by decide +kernel
theorem d_Mo_power_77 : decode zb_Mo_power 77 = .ok (.putfield 253, 3) := by decide +kernel
theorem d_Mo_power_80 : decode zb_Mo_power 80 = .ok (.aload_n 0, 1) := by decide +kernel
theorem d_Mo_power_81 : decode zb_Mo_power 81 = .ok (.getfield 68, 3) := by decide +kernel
theorem d_Mo_power_84 : decode zb_Mo_power 84 = .ok (.iconst 2, 1) := by decide +kernel
theorem d_Mo_power_85 : decode zb_Mo_power 85 = .ok (.iaload, 1) := by decide +kernel
theorem d_Mo_power_86 : decode zb_Mo_power 86 = .ok (.ireturn, 1) := by decide +kernel
def k_Mo_power_39 (l1 : Int32) : Nat → Int32 → zsM → Option (Int32 × zsM)
  | 0, _, _ => none
  | fu + 1, l3, x => (if l3 < (25 : Int32) then (if zOut l3 25 then none else (if zOut ((((25 : Int32) * l1) + l3)) 100 then none else k_Mo_power_39 l1 fu ((l3 + (1 : Int32))) ((x.1, (va_up x.2 33 (upd ((x.2 33)) ((((25 : Int32) * l1) + l3)).toNatClampNeg ((((x.2 35)) l3.toNatClampNeg)))))))) else (if zOut ((2 : Int32)) 25 then none else some ((((x.2 35)) ((2 : Int32)).toNatClampNeg), ((upd x.1 38 (((x.1 38) ||| ((1 : Int32) <<< (l1 &&& 31))))), x.2))))
set_option maxRecDepth 20000 in
theorem w_Mo_power_39 {X : zX} {c : zY} {q : Nat → Nat} {l1 : Int32} {out : Int32 × zsM} (hX : Ok X zr_Mo zb_Mo_power 4 5 c) (hR : Rt X (some .int) (some (.int out.1)) (zwM c q out.2)) : ∀ (fu : Nat) (l3 : Int32) (x : zsM), k_Mo_power_39 l1 fu l3 x = some out → Go X (zwM c q x) [(0, .ref ((q 0))), (1, .int l1), (3, .int l3)] 39 [] := by
  intro fu
  induction fu with
  | zero => intro l3 x h; rw [k_Mo_power_39] at h; cases h
  | succ fu ih =>
    intro l3 x h
    rw [k_Mo_power_39] at h
    refine g_iload_n (pc := 39) hX d_Mo_power_39 rfl 2 rfl ?_
    refine g_bipush (pc := 40) hX d_Mo_power_40 ze_25 ?_
    refine g_icmp_ge (pc := 42) (tgt := 68) hX d_Mo_power_42 (by decide) h (fun c6 h => ?_) (fun c6 h => ?_)
    · refine g_aload_n (pc := 68) hX d_Mo_power_68 rfl 0 rfl ?_
      refine g_dup (pc := 69) hX d_Mo_power_69 rfl ?_
      refine gf_Mo_253 (pc := 70) (v := .int ((x.1 38))) hX 0 rfl rfl d_Mo_power_70 ?_
      refine g_iconst (pc := 73) hX d_Mo_power_73 zc_1 ?_
      refine g_iload_n (pc := 74) hX d_Mo_power_74 rfl 1 rfl ?_
      refine g_ishl (pc := 75) hX d_Mo_power_75 ?_
      refine g_ior (pc := 76) hX d_Mo_power_76 ?_
      refine pf_Mo_253 (pc := 77) (w2 := (zwM c q (((upd x.1 38 (((x.1 38) ||| ((1 : Int32) <<< (l1 &&& 31))))), x.2)))) hX 0 rfl rfl (su_Mo_0_38 c q x (((x.1 38) ||| ((1 : Int32) <<< (l1 &&& 31))))) d_Mo_power_77 ?_
      refine g_aload_n (pc := 80) hX d_Mo_power_80 rfl 0 rfl ?_
      refine gf_Mo_68 (pc := 81) (v := .ref ((q 19))) hX 0 rfl rfl d_Mo_power_81 ?_
      refine g_iconst (pc := 84) hX d_Mo_power_84 zc_2 ?_
      refine g_iald (pc := 85) (f := (x.2 35)) hX 19 rfl h d_Mo_power_85 (fun h => ?_)
      obtain rfl := Option.some.inj h
      exact g_iret (pc := 86) hX hR d_Mo_power_86
    · refine g_aload_n (pc := 45) hX d_Mo_power_45 rfl 0 rfl ?_
      refine gf_Mo_62 (pc := 46) (v := .ref ((q 17))) hX 0 rfl rfl d_Mo_power_46 ?_
      refine g_bipush (pc := 49) hX d_Mo_power_49 ze_25 ?_
      refine g_iload_n (pc := 51) hX d_Mo_power_51 rfl 1 rfl ?_
      refine g_imul (pc := 52) hX d_Mo_power_52 ?_
      refine g_iload_n (pc := 53) hX d_Mo_power_53 rfl 2 rfl ?_
      refine g_iadd (pc := 54) hX d_Mo_power_54 ?_
      refine g_aload_n (pc := 55) hX d_Mo_power_55 rfl 0 rfl ?_
      refine gf_Mo_68 (pc := 56) (v := .ref ((q 19))) hX 0 rfl rfl d_Mo_power_56 ?_
      refine g_iload_n (pc := 59) hX d_Mo_power_59 rfl 2 rfl ?_
      refine g_iald (pc := 60) (f := (x.2 35)) hX 19 rfl h d_Mo_power_60 (fun h => ?_)
      refine g_iast (pc := 61) (f := (x.2 33)) (w' := (zwM c q ((x.1, (va_up x.2 33 (upd ((x.2 33)) ((((25 : Int32) * l1) + l3)).toNatClampNeg ((((x.2 35)) l3.toNatClampNeg)))))))) hX 17 rfl h (sa_Mo_17 c q x (upd ((x.2 33)) ((((25 : Int32) * l1) + l3)).toNatClampNeg ((((x.2 35)) l3.toNatClampNeg)))) d_Mo_power_61 (fun h => ?_)
      refine g_iinc (pc := 62) (q := 2) (L' := [(3, .int ((l3 + (1 : Int32)))), (0, .ref ((q 0))), (1, .int l1)]) hX d_Mo_power_62 rfl zc_1 rfl rfl ?_
      refine g_goto (pc := 65) (tgt := 39) hX d_Mo_power_65 (by decide) ?_
      refine g_ls (L' := [(0, .ref ((q 0))), (1, .int l1), (3, .int ((l3 + (1 : Int32))))]) [1, 2, 0] rfl ?_
      exact ih _ _ h
def k_Mo_power (x : zsM) (l1 : Int32) : Option (Int32 × zsM) := (k_Mo_isBetween l1 ((0 : Int32)) ((3 : Int32))).bind fun o1 => (if o1 = 0 then some ((-1 : Int32), x) else (k_Mo_takesPower x).bind fun o3 => (if o3.1 = 0 then some (((-100 : Int32) - (o3.2.1 37)), ((upd o3.2.1 36 ((0 : Int32))), o3.2.2)) else (k_Mo_remembers (((upd o3.2.1 36 ((0 : Int32))), o3.2.2))).bind fun o5 => k_Mo_power_39 l1 zFu ((0 : Int32)) o5))
set_option maxRecDepth 20000 in
theorem c_Mo_power (c : zY) (q : Nat → Nat) (x : zsM) (l1 : Int32) {out : Int32 × zsM} (h : k_Mo_power x l1 = some out) : KM zy_Mo_power zb_Mo_power 4 (some .int) 5 c [.ref ((q 0)), .int l1] (zwM c q x) (zwM c q out.2) (some (.int out.1)) := zK_of zp_Mo rfl (Nat.le_of_ble_eq_true rfl) (zq_Mo c q _ _) (fun X hX hR => by
  show Go X (zwM c q x) [(0, .ref ((q 0))), (1, .int l1)] 0 []
  rw [k_Mo_power] at h
  refine g_iload_n (pc := 0) hX d_Mo_power_0 rfl 1 rfl ?_
  refine g_iconst (pc := 1) hX d_Mo_power_1 zc_0 ?_
  refine g_iconst (pc := 2) hX d_Mo_power_2 zc_3 ?_
  obtain ⟨o1, e1, h⟩ := zbind h
  refine g_csI (pc := 3) (st := []) hX zk_Mo_isBetween zL_Mo_84 (c_Mo_isBetween c l1 ((0 : Int32)) ((3 : Int32)) e1) rfl rfl rfl rfl rfl d_Mo_power_3 ?_
  refine g_if_ne (pc := 6) (tgt := 11) hX d_Mo_power_6 (by decide) h (fun c2 h => ?_) (fun c2 h => ?_)
  · refine g_aload_n (pc := 11) hX d_Mo_power_11 rfl 0 rfl ?_
    obtain ⟨o3, e3, h⟩ := zbind h
    refine g_cvI (pc := 12) (w1 := []) (w2 := []) (st := []) (w' := (zwM c q o3.2)) hX zk_Mo_takesPower zs_Mo_takesPower zL_Mo_250 (c_Mo_takesPower c q x e3) rfl rfl rfl rfl (zself _) (zself _).symm 0 10 rfl rfl rfl d_Mo_power_12 ?_
    refine g_istore_n (pc := 15) (L' := [(2, .int o3.1), (0, .ref ((q 0))), (1, .int l1)]) hX d_Mo_power_15 rfl rfl rfl ?_
    refine g_aload_n (pc := 16) hX d_Mo_power_16 rfl 1 rfl ?_
    refine g_iconst (pc := 17) hX d_Mo_power_17 zc_0 ?_
    refine pf_Mo_224 (pc := 18) (w2 := (zwM c q (((upd o3.2.1 36 ((0 : Int32))), o3.2.2)))) hX 0 rfl rfl (su_Mo_0_36 c q o3.2 ((0 : Int32))) d_Mo_power_18 ?_
    refine g_iload_n (pc := 21) hX d_Mo_power_21 rfl 0 rfl ?_
    refine g_if_ne (pc := 22) (tgt := 33) hX d_Mo_power_22 (by decide) h (fun c4 h => ?_) (fun c4 h => ?_)
    · refine g_aload_n (pc := 33) hX d_Mo_power_33 rfl 1 rfl ?_
      obtain ⟨o5, e5, h⟩ := zbind h
      refine g_cvV (pc := 34) (w1 := []) (w2 := []) (st := []) (w' := (zwM c q o5)) hX zk_Mo_remembers zs_Mo_remembers zL_Mo_175 (c_Mo_remembers c q (((upd o3.2.1 36 ((0 : Int32))), o3.2.2)) e5) rfl rfl rfl rfl (zself _) (zself _).symm 0 10 rfl rfl rfl d_Mo_power_34 ?_
      refine g_iconst (pc := 37) hX d_Mo_power_37 zc_0 ?_
      refine g_istore_n (pc := 38) (L' := [(3, .int ((0 : Int32))), (2, .int o3.1), (0, .ref ((q 0))), (1, .int l1)]) hX d_Mo_power_38 rfl rfl rfl ?_
      refine g_ls (L' := [(0, .ref ((q 0))), (1, .int l1), (3, .int ((0 : Int32)))]) [2, 3, 0] rfl ?_
      exact w_Mo_power_39 hX hR _ _ _ h
    · refine g_bipush (pc := 25) hX d_Mo_power_25 ze_m100 ?_
      refine g_aload_n (pc := 27) hX d_Mo_power_27 rfl 1 rfl ?_
      refine gf_Mo_231 (pc := 28) (v := .int ((o3.2.1 37))) hX 0 rfl rfl d_Mo_power_28 ?_
      refine g_isub (pc := 31) hX d_Mo_power_31 ?_
      obtain rfl := Option.some.inj h
      exact g_iret (pc := 32) hX hR d_Mo_power_32
  · refine g_iconst (pc := 9) hX d_Mo_power_9 zc_m1 ?_
    obtain rfl := Option.some.inj h
    exact g_iret (pc := 10) hX hR d_Mo_power_10)
theorem d_Mo_distance_0 : decode zb_Mo_distance 0 = .ok (.iload_n 0, 1) := by decide +kernel
theorem d_Mo_distance_1 : decode zb_Mo_distance 1 = .ok (.iload_n 1, 1) := by decide +kernel
theorem d_Mo_distance_2 : decode zb_Mo_distance 2 = .ok (.if_icmp .ge 9, 3) := by decide +kernel
theorem d_Mo_distance_5 : decode zb_Mo_distance 5 = .ok (.iload_n 1, 1) := by decide +kernel
theorem d_Mo_distance_6 : decode zb_Mo_distance 6 = .ok (.iload_n 0, 1) := by decide +kernel
theorem d_Mo_distance_7 : decode zb_Mo_distance 7 = .ok (.isub, 1) := by decide +kernel
theorem d_Mo_distance_8 : decode zb_Mo_distance 8 = .ok (.goto 6, 3) := by decide +kernel
theorem d_Mo_distance_11 : decode zb_Mo_distance 11 = .ok (.iload_n 0, 1) := by decide +kernel
theorem d_Mo_distance_12 : decode zb_Mo_distance 12 = .ok (.iload_n 1, 1) := by decide +kernel
theorem d_Mo_distance_13 : decode zb_Mo_distance 13 = .ok (.isub, 1) := by decide +kernel
theorem d_Mo_distance_14 : decode zb_Mo_distance 14 = .ok (.ireturn, 1) := by decide +kernel
def k_Mo_distance (l0 : Int32) (l1 : Int32) : Option (Int32) := (if l0 < l1 then some ((l1 - l0)) else some ((l0 - l1)))
set_option maxRecDepth 20000 in
theorem c_Mo_distance (c : zY) (l0 : Int32) (l1 : Int32) {out : Int32} (h : k_Mo_distance l0 l1 = some out) : KM zy_Mo_distance zb_Mo_distance 2 (some .int) 0 c [.int l0, .int l1] [] [] (some (.int out)) := zK_of zp_Mo rfl (Nat.le_of_ble_eq_true rfl) rfl (fun X hX hR => by
  show Go X [] [(0, .int l0), (1, .int l1)] 0 []
  rw [k_Mo_distance] at h
  refine g_iload_n (pc := 0) hX d_Mo_distance_0 rfl 0 rfl ?_
  refine g_iload_n (pc := 1) hX d_Mo_distance_1 rfl 1 rfl ?_
  refine g_icmp_ge (pc := 2) (tgt := 11) hX d_Mo_distance_2 (by decide) h (fun c1 h => ?_) (fun c1 h => ?_)
  · refine g_iload_n (pc := 11) hX d_Mo_distance_11 rfl 0 rfl ?_
    refine g_iload_n (pc := 12) hX d_Mo_distance_12 rfl 1 rfl ?_
    refine g_isub (pc := 13) hX d_Mo_distance_13 ?_
    obtain rfl := Option.some.inj h
    exact g_iret (pc := 14) hX hR d_Mo_distance_14
  · refine g_iload_n (pc := 5) hX d_Mo_distance_5 rfl 1 rfl ?_
    refine g_iload_n (pc := 6) hX d_Mo_distance_6 rfl 0 rfl ?_
    refine g_isub (pc := 7) hX d_Mo_distance_7 ?_
    refine g_goto (pc := 8) (tgt := 14) hX d_Mo_distance_8 (by decide) ?_
    obtain rfl := Option.some.inj h
    exact g_iret (pc := 14) hX hR d_Mo_distance_14)
theorem d_Mo_isWithin_0 : decode zb_Mo_isWithin 0 = .ok (.iload_n 1, 1) := by decide +kernel
theorem d_Mo_isWithin_1 : decode zb_Mo_isWithin 1 = .ok (.bipush 10, 2) := by decide +kernel
theorem d_Mo_isWithin_3 : decode zb_Mo_isWithin 3 = .ok (.irem, 1) := by decide +kernel
theorem d_Mo_isWithin_4 : decode zb_Mo_isWithin 4 = .ok (.iload 4, 2) := by decide +kernel
theorem d_Mo_isWithin_6 : decode zb_Mo_isWithin 6 = .ok (.bipush 10, 2) := by decide +kernel
theorem d_Mo_isWithin_8 : decode zb_Mo_isWithin 8 = .ok (.irem, 1) := by decide +kernel
theorem d_Mo_isWithin_9 : decode zb_Mo_isWithin 9 = .ok (.invokestatic 260, 3) := by decide +kernel
theorem d_Mo_isWithin_12 : decode zb_Mo_isWithin 12 = .ok (.istore 5, 2) := by decide +kernel
theorem d_Mo_isWithin_14 : decode zb_Mo_isWithin 14 = .ok (.iload_n 1, 1) := by decide +kernel
theorem d_Mo_isWithin_15 : decode zb_Mo_isWithin 15 = .ok (.bipush 10, 2) := by decide +kernel
theorem d_Mo_isWithin_17 : decode zb_Mo_isWithin 17 = .ok (.idiv, 1) := by decide +kernel
theorem d_Mo_isWithin_18 : decode zb_Mo_isWithin 18 = .ok (.iload 4, 2) := by decide +kernel
theorem d_Mo_isWithin_20 : decode zb_Mo_isWithin 20 = .ok (.bipush 10, 2) := by decide +kernel
theorem d_Mo_isWithin_22 : decode zb_Mo_isWithin 22 = .ok (.idiv, 1) := by decide +kernel
theorem d_Mo_isWithin_23 : decode zb_Mo_isWithin 23 = .ok (.invokestatic 260, 3) := by decide +kernel
theorem d_Mo_isWithin_26 : decode zb_Mo_isWithin 26 = .ok (.istore 6, 2) := by decide +kernel
theorem d_Mo_isWithin_28 : decode zb_Mo_isWithin 28 = .ok (.iload_n 0, 1) := by decide +kernel
theorem d_Mo_isWithin_29 : decode zb_Mo_isWithin 29 = .ok (.ifCond .ne 21, 3) := by decide +kernel
theorem d_Mo_isWithin_32 : decode zb_Mo_isWithin 32 = .ok (.iload 5, 2) := by decide +kernel
theorem d_Mo_isWithin_34 : decode zb_Mo_isWithin 34 = .ok (.iload_n 3, 1) := by decide +kernel
theorem d_Mo_isWithin_35 : decode zb_Mo_isWithin 35 = .ok (.if_icmp .gt 13, 3) := by decide +kernel
theorem d_Mo_isWithin_38 : decode zb_Mo_isWithin 38 = .ok (.iload 6, 2) := by decide +kernel
theorem d_Mo_isWithin_40 : decode zb_Mo_isWithin 40 = .ok (.iload_n 3, 1) := by decide +kernel
theorem d_Mo_isWithin_41 : decode zb_Mo_isWithin 41 = .ok (.if_icmp .gt 7, 3) := by decide +kernel
theorem d_Mo_isWithin_44 : decode zb_Mo_isWithin 44 = .ok (.iconst 1, 1) := by decide +kernel
theorem d_Mo_isWithin_45 : decode zb_Mo_isWithin 45 = .ok (.goto 4, 3) := by decide +kernel
theorem d_Mo_isWithin_48 : decode zb_Mo_isWithin 48 = .ok (.iconst 0, 1) := by decide +kernel
theorem d_Mo_isWithin_49 : decode zb_Mo_isWithin 49 = .ok (.ireturn, 1) := by decide +kernel
theorem d_Mo_isWithin_50 : decode zb_Mo_isWithin 50 = .ok (.iload_n 0, 1) := by decide +kernel
theorem d_Mo_isWithin_51 : decode zb_Mo_isWithin 51 = .ok (.iconst 1, 1) := by decide +kernel
theorem d_Mo_isWithin_52 : decode zb_Mo_isWithin 52 = .ok (.if_icmp .ne 18, 3) := by decide +kernel
theorem d_Mo_isWithin_55 : decode zb_Mo_isWithin 55 = .ok (.iload 5, 2) := by decide +kernel
theorem d_Mo_isWithin_57 : decode zb_Mo_isWithin 57 = .ok (.iload 6, 2) := by decide +kernel
theorem d_Mo_isWithin_59 : decode zb_Mo_isWithin 59 = .ok (.iadd, 1) := by decide +kernel
theorem d_Mo_isWithin_60 : decode zb_Mo_isWithin 60 = .ok (.iload_n 3, 1) := by decide +kernel
theorem d_Mo_isWithin_61 : decode zb_Mo_isWithin 61 = .ok (.if_icmp .gt 7, 3) := by decide +kernel
theorem d_Mo_isWithin_64 : decode zb_Mo_isWithin 64 = .ok (.iconst 1, 1) := by decide +kernel
theorem d_Mo_isWithin_65 : decode zb_Mo_isWithin 65 = .ok (.goto 4, 3) := by decide +kernel
theorem d_Mo_isWithin_68 : decode zb_Mo_isWithin 68 = .ok (.iconst 0, 1) := by decide +kernel
theorem d_Mo_isWithin_69 : decode zb_Mo_isWithin 69 = .ok (.ireturn, 1) := by decide +kernel
theorem d_Mo_isWithin_70 : decode zb_Mo_isWithin 70 = .ok (.iload_n 2, 1) := by decide +kernel
theorem d_Mo_isWithin_71 : decode zb_Mo_isWithin 71 = .ok (.ifCond .ne 16, 3) := by decide +kernel
theorem d_Mo_isWithin_74 : decode zb_Mo_isWithin 74 = .ok (.iload 4, 2) := by decide +kernel
theorem d_Mo_isWithin_76 : decode zb_Mo_isWithin 76 = .ok (.bipush 10, 2) := by decide +kernel
theorem d_Mo_isWithin_78 : decode zb_Mo_isWithin 78 = .ok (.irem, 1) := by decide +kernel
theorem d_Mo_isWithin_79 : decode zb_Mo_isWithin 79 = .ok (.iload_n 1, 1) := by decide +kernel
theorem d_Mo_isWithin_80 : decode zb_Mo_isWithin 80 = .ok (.bipush 10, 2) := by decide +kernel
theorem d_Mo_isWithin_82 : decode zb_Mo_isWithin 82 = .ok (.irem, 1) := by decide +kernel
theorem d_Mo_isWithin_83 : decode zb_Mo_isWithin 83 = .ok (.isub, 1) := by decide +kernel
theorem d_Mo_isWithin_84 : decode zb_Mo_isWithin 84 = .ok (.goto 49, 3) := by decide +kernel
theorem d_Mo_isWithin_87 : decode zb_Mo_isWithin 87 = .ok (.iload_n 2, 1) := by decide +kernel
theorem d_Mo_isWithin_88 : decode zb_Mo_isWithin 88 = .ok (.iconst 1, 1) := by decide +kernel
theorem d_Mo_isWithin_89 : decode zb_Mo_isWithin 89 = .ok (.if_icmp .ne 16, 3) := by decide +kernel
theorem d_Mo_isWithin_92 : decode zb_Mo_isWithin 92 = .ok (.iload 4, 2) := by decide +kernel
theorem d_Mo_isWithin_94 : decode zb_Mo_isWithin 94 = .ok (.bipush 10, 2) := by decide +kernel
theorem d_Mo_isWithin_96 : decode zb_Mo_isWithin 96 = .ok (.idiv, 1) := by decide +kernel
theorem d_Mo_isWithin_97 : decode zb_Mo_isWithin 97 = .ok (.iload_n 1, 1) := by decide +kernel
theorem d_Mo_isWithin_98 : decode zb_Mo_isWithin 98 = .ok (.bipush 10, 2) := by decide +kernel
theorem d_Mo_isWithin_100 : decode zb_Mo_isWithin 100 = .ok (.idiv, 1) := by decide +kernel
theorem d_Mo_isWithin_101 : decode zb_Mo_isWithin 101 = .ok (.isub, 1) := by decide +kernel
theorem d_Mo_isWithin_102 : decode zb_Mo_isWithin 102 = .ok (.goto 31, 3) := by decide +kernel
theorem d_Mo_isWithin_105 : decode zb_Mo_isWithin 105 = .ok (.iload_n 2, 1) := by decide +kernel
theorem d_Mo_isWithin_106 : decode zb_Mo_isWithin 106 = .ok (.iconst 2, 1) := by decide +kernel
theorem d_Mo_isWithin_107 : decode zb_Mo_isWithin 107 = .ok (.if_icmp .ne 16, 3) := by decide +kernel
theorem d_Mo_isWithin_110 : decode zb_Mo_isWithin 110 = .ok (.iload_n 1, 1) := by decide +kernel
theorem d_Mo_isWithin_111 : decode zb_Mo_isWithin 111 = .ok (.bipush 10, 2) := by decide +kernel
theorem d_Mo_isWithin_113 : decode zb_Mo_isWithin 113 = .ok (.irem, 1) := by decide +kernel
theorem d_Mo_isWithin_114 : decode zb_Mo_isWithin 114 = .ok (.iload 4, 2) := by decide +kernel
theorem d_Mo_isWithin_116 : decode zb_Mo_isWithin 116 = .ok (.bipush 10, 2) := by decide +kernel
theorem d_Mo_isWithin_118 : decode zb_Mo_isWithin 118 = .ok (.irem, 1) := by decide +kernel
theorem d_Mo_isWithin_119 : decode zb_Mo_isWithin 119 = .ok (.isub, 1) := by decide +kernel
theorem d_Mo_isWithin_120 : decode zb_Mo_isWithin 120 = .ok (.goto 13, 3) := by decide +kernel
theorem d_Mo_isWithin_123 : decode zb_Mo_isWithin 123 = .ok (.iload_n 1, 1) := by decide +kernel
theorem d_Mo_isWithin_124 : decode zb_Mo_isWithin 124 = .ok (.bipush 10, 2) := by decide +kernel
theorem d_Mo_isWithin_126 : decode zb_Mo_isWithin 126 = .ok (.idiv, 1) := by decide +kernel
theorem d_Mo_isWithin_127 : decode zb_Mo_isWithin 127 = .ok (.iload 4, 2) := by decide +kernel
theorem d_Mo_isWithin_129 : decode zb_Mo_isWithin 129 = .ok (.bipush 10, 2) := by decide +kernel
theorem d_Mo_isWithin_131 : decode zb_Mo_isWithin 131 = .ok (.idiv, 1) := by decide +kernel
theorem d_Mo_isWithin_132 : decode zb_Mo_isWithin 132 = .ok (.isub, 1) := by decide +kernel
theorem d_Mo_isWithin_133 : decode zb_Mo_isWithin 133 = .ok (.istore 7, 2) := by decide +kernel
theorem d_Mo_isWithin_135 : decode zb_Mo_isWithin 135 = .ok (.iload_n 2, 1) := by decide +kernel
theorem d_Mo_isWithin_136 : decode zb_Mo_isWithin 136 = .ok (.iconst 2, 1) := by decide +kernel
theorem d_Mo_isWithin_137 : decode zb_Mo_isWithin 137 = .ok (.irem, 1) := by decide +kernel
theorem d_Mo_isWithin_138 : decode zb_Mo_isWithin 138 = .ok (.ifCond .ne 8, 3) := by decide +kernel
theorem d_Mo_isWithin_141 : decode zb_Mo_isWithin 141 = .ok (.iload 6, 2) := by decide +kernel
theorem d_Mo_isWithin_143 : decode zb_Mo_isWithin 143 = .ok (.goto 5, 3) := by decide +kernel
theorem d_Mo_isWithin_146 : decode zb_Mo_isWithin 146 = .ok (.iload 5, 2) := by decide +kernel
theorem d_Mo_isWithin_148 : decode zb_Mo_isWithin 148 = .ok (.istore 8, 2) := by decide +kernel
theorem d_Mo_isWithin_150 : decode zb_Mo_isWithin 150 = .ok (.iload 7, 2) := by decide +kernel
theorem d_Mo_isWithin_152 : decode zb_Mo_isWithin 152 = .ok (.iconst 1, 1) := by decide +kernel
theorem d_Mo_isWithin_153 : decode zb_Mo_isWithin 153 = .ok (.iload_n 3, 1) := by decide +kernel
theorem d_Mo_isWithin_154 : decode zb_Mo_isWithin 154 = .ok (.invokestatic 84, 3) := by decide +kernel
theorem d_Mo_isWithin_157 : decode zb_Mo_isWithin 157 = .ok (.ifCond .eq 25, 3) := by decide +kernel
theorem d_Mo_isWithin_160 : decode zb_Mo_isWithin 160 = .ok (.iload 8, 2) := by decide +kernel
theorem d_Mo_isWithin_162 : decode zb_Mo_isWithin 162 = .ok (.iload_n 0, 1) := by decide +kernel
theorem d_Mo_isWithin_163 : decode zb_Mo_isWithin 163 = .ok (.iconst 2, 1) := by decide +kernel
theorem d_Mo_isWithin_164 : decode zb_Mo_isWithin 164 = .ok (.if_icmp .ne 10, 3) := by decide +kernel
theorem d_Mo_isWithin_167 : decode zb_Mo_isWithin 167 = .ok (.iload 7, 2) := by decide +kernel
theorem d_Mo_isWithin_169 : decode zb_Mo_isWithin 169 = .ok (.iconst 2, 1) := by decide +kernel
theorem d_Mo_isWithin_170 : decode zb_Mo_isWithin 170 = .ok (.idiv, 1) := by decide +kernel
theorem d_Mo_isWithin_171 : decode zb_Mo_isWithin 171 = .ok (.goto 4, 3) := by decide +kernel
theorem d_Mo_isWithin_174 : decode zb_Mo_isWithin 174 = .ok (.iconst 0, 1) := by decide +kernel
theorem d_Mo_isWithin_175 : decode zb_Mo_isWithin 175 = .ok (.if_icmp .gt 7, 3) := by decide +kernel
theorem d_Mo_isWithin_178 : decode zb_Mo_isWithin 178 = .ok (.iconst 1, 1) := by decide +kernel
theorem d_Mo_isWithin_179 : decode zb_Mo_isWithin 179 = .ok (.goto 4, 3) := by decide +kernel
theorem d_Mo_isWithin_182 : decode zb_Mo_isWithin 182 = .ok (.iconst 0, 1) := by decide +kernel
theorem d_Mo_isWithin_183 : decode zb_Mo_isWithin 183 = .ok (.ireturn, 1) := by decide +kernel
def k_Mo_isWithin_175 (l0 : Int32) (l1 : Int32) (l2 : Int32) (l3 : Int32) (l4 : Int32) (s0 : Int32) (s1 : Int32) : Option (Int32) := (if s0 < s1 then some ((0 : Int32)) else some ((1 : Int32)))
set_option maxRecDepth 20000 in
theorem w_Mo_isWithin_175 {X : zX} {c : zY} {l0 : Int32} {l1 : Int32} {l2 : Int32} {l3 : Int32} {l4 : Int32} {out : Int32} (hX : Ok X zr_Mo zb_Mo_isWithin 9 1 c) (hR : Rt X (some .boolean) (some (.int out)) []) : ∀ (s0 : Int32) (s1 : Int32), k_Mo_isWithin_175 l0 l1 l2 l3 l4 s0 s1 = some out → Go X [] [] 175 [.int s0, .int s1] := by
  intro s0 s1 h
  rw [k_Mo_isWithin_175] at h
  refine g_icmp_gt (pc := 175) (tgt := 182) hX d_Mo_isWithin_175 (by decide) h (fun c12 h => ?_) (fun c12 h => ?_)
  · refine g_iconst (pc := 182) hX d_Mo_isWithin_182 zc_0 ?_
    obtain rfl := Option.some.inj h
    exact g_zret (pc := 183) hX hR (Or.inl rfl) d_Mo_isWithin_183
  · refine g_iconst (pc := 178) hX d_Mo_isWithin_178 zc_1 ?_
    refine g_goto (pc := 179) (tgt := 183) hX d_Mo_isWithin_179 (by decide) ?_
    obtain rfl := Option.some.inj h
    exact g_zret (pc := 183) hX hR (Or.inr rfl) d_Mo_isWithin_183
def k_Mo_isWithin_148 (l0 : Int32) (l1 : Int32) (l2 : Int32) (l3 : Int32) (l4 : Int32) (l7 : Int32) (s0 : Int32) : Option (Int32) := (k_Mo_isBetween l7 ((1 : Int32)) l3).bind fun o9 => (if o9 = 0 then some ((0 : Int32)) else (if l0 = (2 : Int32) then k_Mo_isWithin_175 l0 l1 l2 l3 l4 ((l7 / (2 : Int32))) s0 else k_Mo_isWithin_175 l0 l1 l2 l3 l4 ((0 : Int32)) s0))
set_option maxRecDepth 20000 in
theorem w_Mo_isWithin_148 {X : zX} {c : zY} {l0 : Int32} {l1 : Int32} {l2 : Int32} {l3 : Int32} {l4 : Int32} {out : Int32} (hX : Ok X zr_Mo zb_Mo_isWithin 9 1 c) (hR : Rt X (some .boolean) (some (.int out)) []) : ∀ (l7 : Int32) (s0 : Int32), k_Mo_isWithin_148 l0 l1 l2 l3 l4 l7 s0 = some out → Go X [] [(0, .int l0), (3, .int l3), (7, .int l7)] 148 [.int s0] := by
  intro l7 s0 h
  rw [k_Mo_isWithin_148] at h
  refine g_istore (pc := 148) (L' := [(8, .int s0), (0, .int l0), (3, .int l3), (7, .int l7)]) hX d_Mo_isWithin_148 rfl rfl ?_
  refine g_iload (pc := 150) hX d_Mo_isWithin_150 3 rfl ?_
  refine g_iconst (pc := 152) hX d_Mo_isWithin_152 zc_1 ?_
  refine g_iload_n (pc := 153) hX d_Mo_isWithin_153 rfl 2 rfl ?_
  obtain ⟨o9, e9, h⟩ := zbind h
  refine g_csI (pc := 154) (st := []) hX zk_Mo_isBetween zL_Mo_84 (c_Mo_isBetween c l7 ((1 : Int32)) l3 e9) rfl rfl rfl rfl rfl d_Mo_isWithin_154 ?_
  refine g_if_eq (pc := 157) (tgt := 182) hX d_Mo_isWithin_157 (by decide) h (fun c10 h => ?_) (fun c10 h => ?_)
  · refine g_iconst (pc := 182) hX d_Mo_isWithin_182 zc_0 ?_
    obtain rfl := Option.some.inj h
    exact g_zret (pc := 183) hX hR (Or.inl rfl) d_Mo_isWithin_183
  · refine g_iload (pc := 160) hX d_Mo_isWithin_160 0 rfl ?_
    refine g_iload_n (pc := 162) hX d_Mo_isWithin_162 rfl 1 rfl ?_
    refine g_iconst (pc := 163) hX d_Mo_isWithin_163 zc_2 ?_
    refine g_icmp_ne (pc := 164) (tgt := 174) hX d_Mo_isWithin_164 (by decide) h (fun c11 h => ?_) (fun c11 h => ?_)
    · refine g_iconst (pc := 174) hX d_Mo_isWithin_174 zc_0 ?_
      refine g_ls (L' := []) [] rfl ?_
      exact w_Mo_isWithin_175 hX hR _ _ h
    · refine g_iload (pc := 167) hX d_Mo_isWithin_167 3 rfl ?_
      refine g_iconst (pc := 169) hX d_Mo_isWithin_169 zc_2 ?_
      refine g_idiv (pc := 170) hX d_Mo_isWithin_170 (by decide) ?_
      refine g_goto (pc := 171) (tgt := 175) hX d_Mo_isWithin_171 (by decide) ?_
      refine g_ls (L' := []) [] rfl ?_
      exact w_Mo_isWithin_175 hX hR _ _ h
def k_Mo_isWithin_133 (l0 : Int32) (l1 : Int32) (l2 : Int32) (l3 : Int32) (l4 : Int32) (l5 : Int32) (l6 : Int32) (s0 : Int32) : Option (Int32) := (if (zrem l2 (2 : Int32)) = 0 then k_Mo_isWithin_148 l0 l1 l2 l3 l4 s0 l6 else k_Mo_isWithin_148 l0 l1 l2 l3 l4 s0 l5)
set_option maxRecDepth 20000 in
theorem w_Mo_isWithin_133 {X : zX} {c : zY} {l0 : Int32} {l1 : Int32} {l2 : Int32} {l3 : Int32} {l4 : Int32} {out : Int32} (hX : Ok X zr_Mo zb_Mo_isWithin 9 1 c) (hR : Rt X (some .boolean) (some (.int out)) []) : ∀ (l5 : Int32) (l6 : Int32) (s0 : Int32), k_Mo_isWithin_133 l0 l1 l2 l3 l4 l5 l6 s0 = some out → Go X [] [(0, .int l0), (2, .int l2), (3, .int l3), (5, .int l5), (6, .int l6)] 133 [.int s0] := by
  intro l5 l6 s0 h
  rw [k_Mo_isWithin_133] at h
  refine g_istore (pc := 133) (L' := [(7, .int s0), (0, .int l0), (2, .int l2), (3, .int l3), (5, .int l5), (6, .int l6)]) hX d_Mo_isWithin_133 rfl rfl ?_
  refine g_iload_n (pc := 135) hX d_Mo_isWithin_135 rfl 2 rfl ?_
  refine g_iconst (pc := 136) hX d_Mo_isWithin_136 zc_2 ?_
  refine g_irem (pc := 137) hX d_Mo_isWithin_137 (by decide) ?_
  refine g_if_ne (pc := 138) (tgt := 146) hX d_Mo_isWithin_138 (by decide) h (fun c8 h => ?_) (fun c8 h => ?_)
  · refine g_iload (pc := 146) hX d_Mo_isWithin_146 4 rfl ?_
    refine g_ls (L' := [(0, .int l0), (3, .int l3), (7, .int s0)]) [1, 3, 0] rfl ?_
    exact w_Mo_isWithin_148 hX hR _ _ h
  · refine g_iload (pc := 141) hX d_Mo_isWithin_141 5 rfl ?_
    refine g_goto (pc := 143) (tgt := 148) hX d_Mo_isWithin_143 (by decide) ?_
    refine g_ls (L' := [(0, .int l0), (3, .int l3), (7, .int s0)]) [1, 3, 0] rfl ?_
    exact w_Mo_isWithin_148 hX hR _ _ h
def k_Mo_isWithin (l0 : Int32) (l1 : Int32) (l2 : Int32) (l3 : Int32) (l4 : Int32) : Option (Int32) := (k_Mo_distance ((zrem l1 (10 : Int32))) ((zrem l4 (10 : Int32)))).bind fun o1 => (k_Mo_distance ((l1 / (10 : Int32))) ((l4 / (10 : Int32)))).bind fun o2 => (if l0 = 0 then (if l3 < o1 then some ((0 : Int32)) else (if l3 < o2 then some ((0 : Int32)) else some ((1 : Int32)))) else (if l0 = (1 : Int32) then (if l3 < (o1 + o2) then some ((0 : Int32)) else some ((1 : Int32))) else (if l2 = 0 then k_Mo_isWithin_133 l0 l1 l2 l3 l4 o1 o2 (((zrem l4 (10 : Int32)) - (zrem l1 (10 : Int32)))) else (if l2 = (1 : Int32) then k_Mo_isWithin_133 l0 l1 l2 l3 l4 o1 o2 (((l4 / (10 : Int32)) - (l1 / (10 : Int32)))) else (if l2 = (2 : Int32) then k_Mo_isWithin_133 l0 l1 l2 l3 l4 o1 o2 (((zrem l1 (10 : Int32)) - (zrem l4 (10 : Int32)))) else k_Mo_isWithin_133 l0 l1 l2 l3 l4 o1 o2 (((l1 / (10 : Int32)) - (l4 / (10 : Int32)))))))))
set_option maxRecDepth 20000 in
theorem c_Mo_isWithin (c : zY) (l0 : Int32) (l1 : Int32) (l2 : Int32) (l3 : Int32) (l4 : Int32) {out : Int32} (h : k_Mo_isWithin l0 l1 l2 l3 l4 = some out) : KM zy_Mo_isWithin zb_Mo_isWithin 9 (some .boolean) 1 c [.int l0, .int l1, .int l2, .int l3, .int l4] [] [] (some (.int out)) := zK_of zp_Mo rfl (Nat.le_of_ble_eq_true rfl) rfl (fun X hX hR => by
  show Go X [] [(0, .int l0), (1, .int l1), (2, .int l2), (3, .int l3), (4, .int l4)] 0 []
  rw [k_Mo_isWithin] at h
  refine g_iload_n (pc := 0) hX d_Mo_isWithin_0 rfl 1 rfl ?_
  refine g_bipush (pc := 1) hX d_Mo_isWithin_1 ze_10 ?_
  refine g_irem (pc := 3) hX d_Mo_isWithin_3 (by decide) ?_
  refine g_iload (pc := 4) hX d_Mo_isWithin_4 4 rfl ?_
  refine g_bipush (pc := 6) hX d_Mo_isWithin_6 ze_10 ?_
  refine g_irem (pc := 8) hX d_Mo_isWithin_8 (by decide) ?_
  obtain ⟨o1, e1, h⟩ := zbind h
  refine g_csI (pc := 9) (st := []) hX zk_Mo_distance zL_Mo_260 (c_Mo_distance c ((zrem l1 (10 : Int32))) ((zrem l4 (10 : Int32))) e1) rfl rfl rfl rfl rfl d_Mo_isWithin_9 ?_
  refine g_istore (pc := 12) (L' := [(5, .int o1), (0, .int l0), (1, .int l1), (2, .int l2), (3, .int l3), (4, .int l4)]) hX d_Mo_isWithin_12 rfl rfl ?_
  refine g_iload_n (pc := 14) hX d_Mo_isWithin_14 rfl 2 rfl ?_
  refine g_bipush (pc := 15) hX d_Mo_isWithin_15 ze_10 ?_
  refine g_idiv (pc := 17) hX d_Mo_isWithin_17 (by decide) ?_
  refine g_iload (pc := 18) hX d_Mo_isWithin_18 5 rfl ?_
  refine g_bipush (pc := 20) hX d_Mo_isWithin_20 ze_10 ?_
  refine g_idiv (pc := 22) hX d_Mo_isWithin_22 (by decide) ?_
  obtain ⟨o2, e2, h⟩ := zbind h
  refine g_csI (pc := 23) (st := []) hX zk_Mo_distance zL_Mo_260 (c_Mo_distance c ((l1 / (10 : Int32))) ((l4 / (10 : Int32))) e2) rfl rfl rfl rfl rfl d_Mo_isWithin_23 ?_
  refine g_istore (pc := 26) (L' := [(6, .int o2), (5, .int o1), (0, .int l0), (1, .int l1), (2, .int l2), (3, .int l3), (4, .int l4)]) hX d_Mo_isWithin_26 rfl rfl ?_
  refine g_iload_n (pc := 28) hX d_Mo_isWithin_28 rfl 2 rfl ?_
  refine g_if_ne (pc := 29) (tgt := 50) hX d_Mo_isWithin_29 (by decide) h (fun c3 h => ?_) (fun c3 h => ?_)
  · refine g_iload_n (pc := 50) hX d_Mo_isWithin_50 rfl 2 rfl ?_
    refine g_iconst (pc := 51) hX d_Mo_isWithin_51 zc_1 ?_
    refine g_icmp_ne (pc := 52) (tgt := 70) hX d_Mo_isWithin_52 (by decide) h (fun c4 h => ?_) (fun c4 h => ?_)
    · refine g_iload_n (pc := 70) hX d_Mo_isWithin_70 rfl 4 rfl ?_
      refine g_if_ne (pc := 71) (tgt := 87) hX d_Mo_isWithin_71 (by decide) h (fun c5 h => ?_) (fun c5 h => ?_)
      · refine g_iload_n (pc := 87) hX d_Mo_isWithin_87 rfl 4 rfl ?_
        refine g_iconst (pc := 88) hX d_Mo_isWithin_88 zc_1 ?_
        refine g_icmp_ne (pc := 89) (tgt := 105) hX d_Mo_isWithin_89 (by decide) h (fun c6 h => ?_) (fun c6 h => ?_)
        · refine g_iload_n (pc := 105) hX d_Mo_isWithin_105 rfl 4 rfl ?_
          refine g_iconst (pc := 106) hX d_Mo_isWithin_106 zc_2 ?_
          refine g_icmp_ne (pc := 107) (tgt := 123) hX d_Mo_isWithin_107 (by decide) h (fun c7 h => ?_) (fun c7 h => ?_)
          · refine g_iload_n (pc := 123) hX d_Mo_isWithin_123 rfl 3 rfl ?_
            refine g_bipush (pc := 124) hX d_Mo_isWithin_124 ze_10 ?_
            refine g_idiv (pc := 126) hX d_Mo_isWithin_126 (by decide) ?_
            refine g_iload (pc := 127) hX d_Mo_isWithin_127 6 rfl ?_
            refine g_bipush (pc := 129) hX d_Mo_isWithin_129 ze_10 ?_
            refine g_idiv (pc := 131) hX d_Mo_isWithin_131 (by decide) ?_
            refine g_isub (pc := 132) hX d_Mo_isWithin_132 ?_
            refine g_ls (L' := [(0, .int l0), (2, .int l2), (3, .int l3), (5, .int o1), (6, .int o2)]) [2, 4, 5, 1, 0] rfl ?_
            exact w_Mo_isWithin_133 hX hR _ _ _ h
          · refine g_iload_n (pc := 110) hX d_Mo_isWithin_110 rfl 3 rfl ?_
            refine g_bipush (pc := 111) hX d_Mo_isWithin_111 ze_10 ?_
            refine g_irem (pc := 113) hX d_Mo_isWithin_113 (by decide) ?_
            refine g_iload (pc := 114) hX d_Mo_isWithin_114 6 rfl ?_
            refine g_bipush (pc := 116) hX d_Mo_isWithin_116 ze_10 ?_
            refine g_irem (pc := 118) hX d_Mo_isWithin_118 (by decide) ?_
            refine g_isub (pc := 119) hX d_Mo_isWithin_119 ?_
            refine g_goto (pc := 120) (tgt := 133) hX d_Mo_isWithin_120 (by decide) ?_
            refine g_ls (L' := [(0, .int l0), (2, .int l2), (3, .int l3), (5, .int o1), (6, .int o2)]) [2, 4, 5, 1, 0] rfl ?_
            exact w_Mo_isWithin_133 hX hR _ _ _ h
        · refine g_iload (pc := 92) hX d_Mo_isWithin_92 6 rfl ?_
          refine g_bipush (pc := 94) hX d_Mo_isWithin_94 ze_10 ?_
          refine g_idiv (pc := 96) hX d_Mo_isWithin_96 (by decide) ?_
          refine g_iload_n (pc := 97) hX d_Mo_isWithin_97 rfl 3 rfl ?_
          refine g_bipush (pc := 98) hX d_Mo_isWithin_98 ze_10 ?_
          refine g_idiv (pc := 100) hX d_Mo_isWithin_100 (by decide) ?_
          refine g_isub (pc := 101) hX d_Mo_isWithin_101 ?_
          refine g_goto (pc := 102) (tgt := 133) hX d_Mo_isWithin_102 (by decide) ?_
          refine g_ls (L' := [(0, .int l0), (2, .int l2), (3, .int l3), (5, .int o1), (6, .int o2)]) [2, 4, 5, 1, 0] rfl ?_
          exact w_Mo_isWithin_133 hX hR _ _ _ h
      · refine g_iload (pc := 74) hX d_Mo_isWithin_74 6 rfl ?_
        refine g_bipush (pc := 76) hX d_Mo_isWithin_76 ze_10 ?_
        refine g_irem (pc := 78) hX d_Mo_isWithin_78 (by decide) ?_
        refine g_iload_n (pc := 79) hX d_Mo_isWithin_79 rfl 3 rfl ?_
        refine g_bipush (pc := 80) hX d_Mo_isWithin_80 ze_10 ?_
        refine g_irem (pc := 82) hX d_Mo_isWithin_82 (by decide) ?_
        refine g_isub (pc := 83) hX d_Mo_isWithin_83 ?_
        refine g_goto (pc := 84) (tgt := 133) hX d_Mo_isWithin_84 (by decide) ?_
        refine g_ls (L' := [(0, .int l0), (2, .int l2), (3, .int l3), (5, .int o1), (6, .int o2)]) [2, 4, 5, 1, 0] rfl ?_
        exact w_Mo_isWithin_133 hX hR _ _ _ h
    · refine g_iload (pc := 55) hX d_Mo_isWithin_55 1 rfl ?_
      refine g_iload (pc := 57) hX d_Mo_isWithin_57 0 rfl ?_
      refine g_iadd (pc := 59) hX d_Mo_isWithin_59 ?_
      refine g_iload_n (pc := 60) hX d_Mo_isWithin_60 rfl 5 rfl ?_
      refine g_icmp_gt (pc := 61) (tgt := 68) hX d_Mo_isWithin_61 (by decide) h (fun c13 h => ?_) (fun c13 h => ?_)
      · refine g_iconst (pc := 68) hX d_Mo_isWithin_68 zc_0 ?_
        obtain rfl := Option.some.inj h
        exact g_zret (pc := 69) hX hR (Or.inl rfl) d_Mo_isWithin_69
      · refine g_iconst (pc := 64) hX d_Mo_isWithin_64 zc_1 ?_
        refine g_goto (pc := 65) (tgt := 69) hX d_Mo_isWithin_65 (by decide) ?_
        obtain rfl := Option.some.inj h
        exact g_zret (pc := 69) hX hR (Or.inr rfl) d_Mo_isWithin_69
  · refine g_iload (pc := 32) hX d_Mo_isWithin_32 1 rfl ?_
    refine g_iload_n (pc := 34) hX d_Mo_isWithin_34 rfl 5 rfl ?_
    refine g_icmp_gt (pc := 35) (tgt := 48) hX d_Mo_isWithin_35 (by decide) h (fun c14 h => ?_) (fun c14 h => ?_)
    · refine g_iconst (pc := 48) hX d_Mo_isWithin_48 zc_0 ?_
      obtain rfl := Option.some.inj h
      exact g_zret (pc := 49) hX hR (Or.inl rfl) d_Mo_isWithin_49
    · refine g_iload (pc := 38) hX d_Mo_isWithin_38 0 rfl ?_
      refine g_iload_n (pc := 40) hX d_Mo_isWithin_40 rfl 5 rfl ?_
      refine g_icmp_gt (pc := 41) (tgt := 48) hX d_Mo_isWithin_41 (by decide) h (fun c15 h => ?_) (fun c15 h => ?_)
      · refine g_iconst (pc := 48) hX d_Mo_isWithin_48 zc_0 ?_
        obtain rfl := Option.some.inj h
        exact g_zret (pc := 49) hX hR (Or.inl rfl) d_Mo_isWithin_49
      · refine g_iconst (pc := 44) hX d_Mo_isWithin_44 zc_1 ?_
        refine g_goto (pc := 45) (tgt := 49) hX d_Mo_isWithin_45 (by decide) ?_
        obtain rfl := Option.some.inj h
        exact g_zret (pc := 49) hX hR (Or.inr rfl) d_Mo_isWithin_49)
theorem d_Mo_findArea_0 : decode zb_Mo_findArea 0 = .ok (.iconst 0, 1) := by decide +kernel
theorem d_Mo_findArea_1 : decode zb_Mo_findArea 1 = .ok (.istore 5, 2) := by decide +kernel
theorem d_Mo_findArea_3 : decode zb_Mo_findArea 3 = .ok (.iconst 0, 1) := by decide +kernel
theorem d_Mo_findArea_4 : decode zb_Mo_findArea 4 = .ok (.istore 6, 2) := by decide +kernel
theorem d_Mo_findArea_6 : decode zb_Mo_findArea 6 = .ok (.iload 6, 2) := by decide +kernel
theorem d_Mo_findArea_8 : decode zb_Mo_findArea 8 = .ok (.bipush 100, 2) := by decide +kernel
theorem d_Mo_findArea_10 : decode zb_Mo_findArea 10 = .ok (.if_icmp .ge 46, 3) := by decide +kernel
theorem d_Mo_findArea_13 : decode zb_Mo_findArea 13 = .ok (.aload_n 0, 1) := by decide +kernel
theorem d_Mo_findArea_14 : decode zb_Mo_findArea 14 = .ok (.getfield 71, 3) := by decide +kernel
theorem d_Mo_findArea_17 : decode zb_Mo_findArea 17 = .ok (.iload 6, 2) := by decide +kernel
theorem d_Mo_findArea_19 : decode zb_Mo_findArea 19 = .ok (.iload_n 1, 1) := by decide +kernel
theorem d_Mo_findArea_20 : decode zb_Mo_findArea 20 = .ok (.iload_n 2, 1) := by decide +kernel
theorem d_Mo_findArea_21 : decode zb_Mo_findArea 21 = .ok (.iload_n 3, 1) := by decide +kernel
theorem d_Mo_findArea_22 : decode zb_Mo_findArea 22 = .ok (.iload 4, 2) := by decide +kernel
theorem d_Mo_findArea_24 : decode zb_Mo_findArea 24 = .ok (.iload 6, 2) := by decide +kernel
theorem d_Mo_findArea_26 : decode zb_Mo_findArea 26 = .ok (.invokestatic 256, 3) := by decide +kernel
theorem d_Mo_findArea_29 : decode zb_Mo_findArea 29 = .ok (.bastore, 1) := by decide +kernel
theorem d_Mo_findArea_30 : decode zb_Mo_findArea 30 = .ok (.iload 5, 2) := by decide +kernel
theorem d_Mo_findArea_32 : decode zb_Mo_findArea 32 = .ok (.aload_n 0, 1) := by decide +kernel
theorem d_Mo_findArea_33 : decode zb_Mo_findArea 33 = .ok (.getfield 71, 3) := by decide +kernel
theorem d_Mo_findArea_36 : decode zb_Mo_findArea 36 = .ok (.iload 6, 2) := by decide +kernel
theorem d_Mo_findArea_38 : decode zb_Mo_findArea 38 = .ok (.baload, 1) := by decide +kernel
theorem d_Mo_findArea_39 : decode zb_Mo_findArea 39 = .ok (.ifCond .eq 7, 3) := by decide +kernel
theorem d_Mo_findArea_42 : decode zb_Mo_findArea 42 = .ok (.iconst 1, 1) := by decide +kernel
theorem d_Mo_findArea_43 : decode zb_Mo_findArea 43 = .ok (.goto 4, 3) := by decide +kernel
theorem d_Mo_findArea_46 : decode zb_Mo_findArea 46 = .ok (.iconst 0, 1) := by decide +kernel
theorem d_Mo_findArea_47 : decode zb_Mo_findArea 47 = .ok (.iadd, 1) := by decide +kernel
theorem d_Mo_findArea_48 : decode zb_Mo_findArea 48 = .ok (.istore 5, 2) := by decide +kernel
theorem d_Mo_findArea_50 : decode zb_Mo_findArea 50 = .ok (.iinc 6 1, 3) := by decide +kernel
theorem d_Mo_findArea_53 : decode zb_Mo_findArea 53 = .ok (.goto (-47), 3) := by decide +kernel
theorem d_Mo_findArea_56 : decode zb_Mo_findArea 56 = .ok (.iload 5, 2) := by decide +kernel
theorem d_Mo_findArea_58 : decode zb_Mo_findArea 58 = .ok (.ireturn, 1) := by decide +kernel
def k_Mo_findArea_6 (l1 : Int32) (l2 : Int32) (l3 : Int32) (l4 : Int32) : Nat → Int32 → Int32 → zsM → Option (Int32 × zsM)
  | 0, _, _, _ => none
  | fu + 1, l5, l6, x => (if l6 < (100 : Int32) then (k_Mo_isWithin l1 l2 l3 l4 l6).bind fun o2 => (if o2 = 0 ∨ o2 = 1 then (if zOut l6 100 then none else (if zOut l6 100 then none else (if (((upd ((x.2 39)) l6.toNatClampNeg o2)) l6.toNatClampNeg) = 0 then k_Mo_findArea_6 l1 l2 l3 l4 fu ((l5 + (0 : Int32))) ((l6 + (1 : Int32))) ((x.1, (va_up x.2 39 (upd ((x.2 39)) l6.toNatClampNeg o2)))) else k_Mo_findArea_6 l1 l2 l3 l4 fu ((l5 + (1 : Int32))) ((l6 + (1 : Int32))) ((x.1, (va_up x.2 39 (upd ((x.2 39)) l6.toNatClampNeg o2))))))) else none) else some (l5, x))
set_option maxRecDepth 20000 in
theorem w_Mo_findArea_6 {X : zX} {c : zY} {q : Nat → Nat} {l1 : Int32} {l2 : Int32} {l3 : Int32} {l4 : Int32} {out : Int32 × zsM} (hX : Ok X zr_Mo zb_Mo_findArea 7 2 c) (hR : Rt X (some .int) (some (.int out.1)) (zwM c q out.2)) : ∀ (fu : Nat) (l5 : Int32) (l6 : Int32) (x : zsM), k_Mo_findArea_6 l1 l2 l3 l4 fu l5 l6 x = some out → Go X (zwM c q x) [(0, .ref ((q 0))), (1, .int l1), (2, .int l2), (3, .int l3), (4, .int l4), (5, .int l5), (6, .int l6)] 6 [] := by
  intro fu
  induction fu with
  | zero => intro l5 l6 x h; rw [k_Mo_findArea_6] at h; cases h
  | succ fu ih =>
    intro l5 l6 x h
    rw [k_Mo_findArea_6] at h
    refine g_iload (pc := 6) hX d_Mo_findArea_6 6 rfl ?_
    refine g_bipush (pc := 8) hX d_Mo_findArea_8 ze_100 ?_
    refine g_icmp_ge (pc := 10) (tgt := 56) hX d_Mo_findArea_10 (by decide) h (fun c1 h => ?_) (fun c1 h => ?_)
    · refine g_iload (pc := 56) hX d_Mo_findArea_56 5 rfl ?_
      obtain rfl := Option.some.inj h
      exact g_iret (pc := 58) hX hR d_Mo_findArea_58
    · refine g_aload_n (pc := 13) hX d_Mo_findArea_13 rfl 0 rfl ?_
      refine gf_Mo_71 (pc := 14) (v := .ref ((q 20))) hX 0 rfl rfl d_Mo_findArea_14 ?_
      refine g_iload (pc := 17) hX d_Mo_findArea_17 6 rfl ?_
      refine g_iload_n (pc := 19) hX d_Mo_findArea_19 rfl 1 rfl ?_
      refine g_iload_n (pc := 20) hX d_Mo_findArea_20 rfl 2 rfl ?_
      refine g_iload_n (pc := 21) hX d_Mo_findArea_21 rfl 3 rfl ?_
      refine g_iload (pc := 22) hX d_Mo_findArea_22 4 rfl ?_
      refine g_iload (pc := 24) hX d_Mo_findArea_24 6 rfl ?_
      obtain ⟨o2, e2, h⟩ := zbind h
      refine g_csI (pc := 26) (st := [.int l6, .ref ((q 20))]) hX zk_Mo_isWithin zL_Mo_256 (c_Mo_isWithin c l1 l2 l3 l4 l6 e2) rfl rfl rfl rfl rfl d_Mo_findArea_26 ?_
      obtain ⟨hb3, h⟩ := zifb h
      refine g_zast (pc := 29) (f := (x.2 39)) (w' := (zwM c q ((x.1, (va_up x.2 39 (upd ((x.2 39)) l6.toNatClampNeg o2)))))) hX 20 rfl h hb3 (sa_Mo_20 c q x (upd ((x.2 39)) l6.toNatClampNeg o2)) d_Mo_findArea_29 (fun h => ?_)
      refine g_iload (pc := 30) hX d_Mo_findArea_30 5 rfl ?_
      refine g_aload_n (pc := 32) hX d_Mo_findArea_32 rfl 0 rfl ?_
      refine gf_Mo_71 (pc := 33) (v := .ref ((q 20))) hX 0 rfl rfl d_Mo_findArea_33 ?_
      refine g_iload (pc := 36) hX d_Mo_findArea_36 6 rfl ?_
      refine g_zald (pc := 38) (f := (upd ((x.2 39)) l6.toNatClampNeg o2)) hX 20 rfl h d_Mo_findArea_38 (fun h => ?_)
      refine g_if_eq (pc := 39) (tgt := 46) hX d_Mo_findArea_39 (by decide) h (fun c4 h => ?_) (fun c4 h => ?_)
      · refine g_iconst (pc := 46) hX d_Mo_findArea_46 zc_0 ?_
        refine g_iadd (pc := 47) hX d_Mo_findArea_47 ?_
        refine g_istore (pc := 48) (L' := [(5, .int ((l5 + (0 : Int32)))), (0, .ref ((q 0))), (1, .int l1), (2, .int l2), (3, .int l3), (4, .int l4), (6, .int l6)]) hX d_Mo_findArea_48 rfl rfl ?_
        refine g_iinc (pc := 50) (q := 6) (L' := [(6, .int ((l6 + (1 : Int32)))), (5, .int ((l5 + (0 : Int32)))), (0, .ref ((q 0))), (1, .int l1), (2, .int l2), (3, .int l3), (4, .int l4)]) hX d_Mo_findArea_50 rfl zc_1 rfl rfl ?_
        refine g_goto (pc := 53) (tgt := 6) hX d_Mo_findArea_53 (by decide) ?_
        refine g_ls (L' := [(0, .ref ((q 0))), (1, .int l1), (2, .int l2), (3, .int l3), (4, .int l4), (5, .int ((l5 + (0 : Int32)))), (6, .int ((l6 + (1 : Int32))))]) [2, 3, 4, 5, 6, 1, 0] rfl ?_
        exact ih _ _ _ h
      · refine g_iconst (pc := 42) hX d_Mo_findArea_42 zc_1 ?_
        refine g_goto (pc := 43) (tgt := 47) hX d_Mo_findArea_43 (by decide) ?_
        refine g_iadd (pc := 47) hX d_Mo_findArea_47 ?_
        refine g_istore (pc := 48) (L' := [(5, .int ((l5 + (1 : Int32)))), (0, .ref ((q 0))), (1, .int l1), (2, .int l2), (3, .int l3), (4, .int l4), (6, .int l6)]) hX d_Mo_findArea_48 rfl rfl ?_
        refine g_iinc (pc := 50) (q := 6) (L' := [(6, .int ((l6 + (1 : Int32)))), (5, .int ((l5 + (1 : Int32)))), (0, .ref ((q 0))), (1, .int l1), (2, .int l2), (3, .int l3), (4, .int l4)]) hX d_Mo_findArea_50 rfl zc_1 rfl rfl ?_
        refine g_goto (pc := 53) (tgt := 6) hX d_Mo_findArea_53 (by decide) ?_
        refine g_ls (L' := [(0, .ref ((q 0))), (1, .int l1), (2, .int l2), (3, .int l3), (4, .int l4), (5, .int ((l5 + (1 : Int32)))), (6, .int ((l6 + (1 : Int32))))]) [2, 3, 4, 5, 6, 1, 0] rfl ?_
        exact ih _ _ _ h
def k_Mo_findArea (x : zsM) (l1 : Int32) (l2 : Int32) (l3 : Int32) (l4 : Int32) : Option (Int32 × zsM) := k_Mo_findArea_6 l1 l2 l3 l4 zFu ((0 : Int32)) ((0 : Int32)) x
set_option maxRecDepth 20000 in
theorem c_Mo_findArea (c : zY) (q : Nat → Nat) (x : zsM) (l1 : Int32) (l2 : Int32) (l3 : Int32) (l4 : Int32) {out : Int32 × zsM} (h : k_Mo_findArea x l1 l2 l3 l4 = some out) : KM zy_Mo_findArea zb_Mo_findArea 7 (some .int) 2 c [.ref ((q 0)), .int l1, .int l2, .int l3, .int l4] (zwM c q x) (zwM c q out.2) (some (.int out.1)) := zK_of zp_Mo rfl (Nat.le_of_ble_eq_true rfl) (zq_Mo c q _ _) (fun X hX hR => by
  show Go X (zwM c q x) [(0, .ref ((q 0))), (1, .int l1), (2, .int l2), (3, .int l3), (4, .int l4)] 0 []
  rw [k_Mo_findArea] at h
  refine g_iconst (pc := 0) hX d_Mo_findArea_0 zc_0 ?_
  refine g_istore (pc := 1) (L' := [(5, .int ((0 : Int32))), (0, .ref ((q 0))), (1, .int l1), (2, .int l2), (3, .int l3), (4, .int l4)]) hX d_Mo_findArea_1 rfl rfl ?_
  refine g_iconst (pc := 3) hX d_Mo_findArea_3 zc_0 ?_
  refine g_istore (pc := 4) (L' := [(6, .int ((0 : Int32))), (5, .int ((0 : Int32))), (0, .ref ((q 0))), (1, .int l1), (2, .int l2), (3, .int l3), (4, .int l4)]) hX d_Mo_findArea_4 rfl rfl ?_
  refine g_ls (L' := [(0, .ref ((q 0))), (1, .int l1), (2, .int l2), (3, .int l3), (4, .int l4), (5, .int ((0 : Int32))), (6, .int ((0 : Int32)))]) [2, 3, 4, 5, 6, 1, 0] rfl ?_
  exact w_Mo_findArea_6 hX hR _ _ _ _ h)
theorem d_Mo_area_0 : decode zb_Mo_area 0 = .ok (.iload_n 1, 1) := by decide +kernel
theorem d_Mo_area_1 : decode zb_Mo_area 1 = .ok (.iconst 0, 1) := by decide +kernel
theorem d_Mo_area_2 : decode zb_Mo_area 2 = .ok (.iconst 3, 1) := by decide +kernel
theorem d_Mo_area_3 : decode zb_Mo_area 3 = .ok (.invokestatic 84, 3) := by decide +kernel
theorem d_Mo_area_6 : decode zb_Mo_area 6 = .ok (.ifCond .eq 19, 3) := by decide +kernel
theorem d_Mo_area_9 : decode zb_Mo_area 9 = .ok (.iload_n 2, 1) := by decide +kernel
theorem d_Mo_area_10 : decode zb_Mo_area 10 = .ok (.invokestatic 166, 3) := by decide +kernel
theorem d_Mo_area_13 : decode zb_Mo_area 13 = .ok (.ifCond .eq 12, 3) := by decide +kernel
theorem d_Mo_area_16 : decode zb_Mo_area 16 = .ok (.iload_n 3, 1) := by decide +kernel
theorem d_Mo_area_17 : decode zb_Mo_area 17 = .ok (.iconst 0, 1) := by decide +kernel
theorem d_Mo_area_18 : decode zb_Mo_area 18 = .ok (.iconst 3, 1) := by decide +kernel
theorem d_Mo_area_19 : decode zb_Mo_area 19 = .ok (.invokestatic 84, 3) := by decide +kernel
theorem d_Mo_area_22 : decode zb_Mo_area 22 = .ok (.ifCond .ne 5, 3) := by decide +kernel
theorem d_Mo_area_25 : decode zb_Mo_area 25 = .ok (.iconst (-1), 1) := by decide +kernel
theorem d_Mo_area_26 : decode zb_Mo_area 26 = .ok (.ireturn, 1) := by decide +kernel
theorem d_Mo_area_27 : decode zb_Mo_area 27 = .ok (.iload 4, 2) := by decide +kernel
theorem d_Mo_area_29 : decode zb_Mo_area 29 = .ok (.iconst 0, 1) := by decide +kernel
theorem d_Mo_area_30 : decode zb_Mo_area 30 = .ok (.iconst 5, 1) := by decide +kernel
theorem d_Mo_area_31 : decode zb_Mo_area 31 = .ok (.invokestatic 84, 3) := by decide +kernel
theorem d_Mo_area_34 : decode zb_Mo_area 34 = .ok (.ifCond .eq 9, 3) := by decide +kernel
theorem d_Mo_area_37 : decode zb_Mo_area 37 = .ok (.iload 5, 2) := by decide +kernel
theorem d_Mo_area_39 : decode zb_Mo_area 39 = .ok (.iconst (-1), 1) := by decide +kernel
theorem d_Mo_area_40 : decode zb_Mo_area 40 = .ok (.if_icmp .ge 6, 3) := by decide +kernel
theorem d_Mo_area_43 : decode zb_Mo_area 43 = .ok (.bipush (-2), 2) := by decide +kernel
theorem d_Mo_area_45 : decode zb_Mo_area 45 = .ok (.ireturn, 1) := by decide +kernel
theorem d_Mo_area_46 : decode zb_Mo_area 46 = .ok (.aload_n 0, 1) := by decide +kernel
theorem d_Mo_area_47 : decode zb_Mo_area 47 = .ok (.iload_n 1, 1) := by decide +kernel
theorem d_Mo_area_48 : decode zb_Mo_area 48 = .ok (.iload_n 2, 1) := by decide +kernel
theorem d_Mo_area_49 : decode zb_Mo_area 49 = .ok (.iload_n 3, 1) := by decide +kernel
theorem d_Mo_area_50 : decode zb_Mo_area 50 = .ok (.iload 4, 2) := by decide +kernel
theorem d_Mo_area_52 : decode zb_Mo_area 52 = .ok (.invokevirtual 263, 3) := by decide +kernel
theorem d_Mo_area_55 : decode zb_Mo_area 55 = .ok (.istore 6, 2) := by decide +kernel
theorem d_Mo_area_57 : decode zb_Mo_area 57 = .ok (.iload 5, 2) := by decide +kernel
theorem d_Mo_area_59 : decode zb_Mo_area 59 = .ok (.ifCond .ge 6, 3) := by decide +kernel
theorem d_Mo_area_62 : decode zb_Mo_area 62 = .ok (.iload 6, 2) := by decide +kernel
theorem d_Mo_area_64 : decode zb_Mo_area 64 = .ok (.ireturn, 1) := by decide +kernel
theorem d_Mo_area_65 : decode zb_Mo_area 65 = .ok (.iconst 0, 1) := by decide +kernel
theorem d_Mo_area_66 : decode zb_Mo_area 66 = .ok (.istore 7, 2) := by decide +kernel
theorem d_Mo_area_68 : decode zb_Mo_area 68 = .ok (.iconst 0, 1) := by decide +kernel
theorem d_Mo_area_69 : decode zb_Mo_area 69 = .ok (.istore 8, 2) := by decide +kernel
theorem d_Mo_area_71 : decode zb_Mo_area 71 = .ok (.iload 8, 2) := by decide +kernel
theorem d_Mo_area_73 : decode zb_Mo_area 73 = .ok (.bipush 100, 2) := by decide +kernel
theorem d_Mo_area_75 : decode zb_Mo_area 75 = .ok (.if_icmp .ge 35, 3) := by decide +kernel
theorem d_Mo_area_78 : decode zb_Mo_area 78 = .ok (.aload_n 0, 1) := by decide +kernel
theorem d_Mo_area_79 : decode zb_Mo_area 79 = .ok (.getfield 71, 3) := by decide +kernel
theorem d_Mo_area_82 : decode zb_Mo_area 82 = .ok (.iload 8, 2) := by decide +kernel
theorem d_Mo_area_84 : decode zb_Mo_area 84 = .ok (.baload, 1) := by decide +kernel
theorem d_Mo_area_85 : decode zb_Mo_area 85 = .ok (.ifCond .ne 6, 3) := by decide +kernel
theorem d_Mo_area_88 : decode zb_Mo_area 88 = .ok (.goto 16, 3) := by decide +kernel
theorem d_Mo_area_91 : decode zb_Mo_area 91 = .ok (.iload 7, 2) := by decide +kernel
theorem d_Mo_area_93 : decode zb_Mo_area 93 = .ok (.iload 5, 2) := by decide +kernel
theorem d_Mo_area_95 : decode zb_Mo_area 95 = .ok (.if_icmp .ne 6, 3) := by decide +kernel
theorem d_Mo_area_98 : decode zb_Mo_area 98 = .ok (.iload 8, 2) := by decide +kernel
theorem d_Mo_area_100 : decode zb_Mo_area 100 = .ok (.ireturn, 1) := by decide +kernel
theorem d_Mo_area_101 : decode zb_Mo_area 101 = .ok (.iinc 7 1, 3) := by decide +kernel
theorem d_Mo_area_104 : decode zb_Mo_area 104 = .ok (.iinc 8 1, 3) := by decide +kernel
theorem d_Mo_area_107 : decode zb_Mo_area 107 = .ok (.goto (-36), 3) := by decide +kernel
theorem d_Mo_area_110 : decode zb_Mo_area 110 = .ok (.bipush (-5), 2) := by decide +kernel
theorem d_Mo_area_112 : decode zb_Mo_area 112 = .ok (.ireturn, 1) := by decide +kernel
def k_Mo_area_71 (l1 : Int32) (l2 : Int32) (l3 : Int32) (l4 : Int32) (l5 : Int32) : Nat → Int32 → Int32 → zsM → Option (Int32 × zsM)
  | 0, _, _, _ => none
  | fu + 1, l7, l8, x => (if l8 < (100 : Int32) then (if zOut l8 100 then none else (if (((x.2 39)) l8.toNatClampNeg) = 0 then k_Mo_area_71 l1 l2 l3 l4 l5 fu l7 ((l8 + (1 : Int32))) x else (if l7 = l5 then some (l8, x) else k_Mo_area_71 l1 l2 l3 l4 l5 fu ((l7 + (1 : Int32))) ((l8 + (1 : Int32))) x))) else some ((-5 : Int32), x))
set_option maxRecDepth 20000 in
theorem w_Mo_area_71 {X : zX} {c : zY} {q : Nat → Nat} {l1 : Int32} {l2 : Int32} {l3 : Int32} {l4 : Int32} {l5 : Int32} {out : Int32 × zsM} (hX : Ok X zr_Mo zb_Mo_area 9 3 c) (hR : Rt X (some .int) (some (.int out.1)) (zwM c q out.2)) : ∀ (fu : Nat) (l7 : Int32) (l8 : Int32) (x : zsM), k_Mo_area_71 l1 l2 l3 l4 l5 fu l7 l8 x = some out → Go X (zwM c q x) [(0, .ref ((q 0))), (5, .int l5), (7, .int l7), (8, .int l8)] 71 [] := by
  intro fu
  induction fu with
  | zero => intro l7 l8 x h; rw [k_Mo_area_71] at h; cases h
  | succ fu ih =>
    intro l7 l8 x h
    rw [k_Mo_area_71] at h
    refine g_iload (pc := 71) hX d_Mo_area_71 3 rfl ?_
    refine g_bipush (pc := 73) hX d_Mo_area_73 ze_100 ?_
    refine g_icmp_ge (pc := 75) (tgt := 110) hX d_Mo_area_75 (by decide) h (fun c12 h => ?_) (fun c12 h => ?_)
    · refine g_bipush (pc := 110) hX d_Mo_area_110 ze_m5 ?_
      obtain rfl := Option.some.inj h
      exact g_iret (pc := 112) hX hR d_Mo_area_112
    · refine g_aload_n (pc := 78) hX d_Mo_area_78 rfl 0 rfl ?_
      refine gf_Mo_71 (pc := 79) (v := .ref ((q 20))) hX 0 rfl rfl d_Mo_area_79 ?_
      refine g_iload (pc := 82) hX d_Mo_area_82 3 rfl ?_
      refine g_zald (pc := 84) (f := (x.2 39)) hX 20 rfl h d_Mo_area_84 (fun h => ?_)
      refine g_if_ne (pc := 85) (tgt := 91) hX d_Mo_area_85 (by decide) h (fun c13 h => ?_) (fun c13 h => ?_)
      · refine g_iload (pc := 91) hX d_Mo_area_91 2 rfl ?_
        refine g_iload (pc := 93) hX d_Mo_area_93 1 rfl ?_
        refine g_icmp_ne (pc := 95) (tgt := 101) hX d_Mo_area_95 (by decide) h (fun c14 h => ?_) (fun c14 h => ?_)
        · refine g_iinc (pc := 101) (q := 2) (L' := [(7, .int ((l7 + (1 : Int32)))), (0, .ref ((q 0))), (5, .int l5), (8, .int l8)]) hX d_Mo_area_101 rfl zc_1 rfl rfl ?_
          refine g_iinc (pc := 104) (q := 3) (L' := [(8, .int ((l8 + (1 : Int32)))), (7, .int ((l7 + (1 : Int32)))), (0, .ref ((q 0))), (5, .int l5)]) hX d_Mo_area_104 rfl zc_1 rfl rfl ?_
          refine g_goto (pc := 107) (tgt := 71) hX d_Mo_area_107 (by decide) ?_
          refine g_ls (L' := [(0, .ref ((q 0))), (5, .int l5), (7, .int ((l7 + (1 : Int32)))), (8, .int ((l8 + (1 : Int32))))]) [2, 3, 1, 0] rfl ?_
          exact ih _ _ _ h
        · refine g_iload (pc := 98) hX d_Mo_area_98 3 rfl ?_
          obtain rfl := Option.some.inj h
          exact g_iret (pc := 100) hX hR d_Mo_area_100
      · refine g_goto (pc := 88) (tgt := 104) hX d_Mo_area_88 (by decide) ?_
        refine g_iinc (pc := 104) (q := 3) (L' := [(8, .int ((l8 + (1 : Int32)))), (0, .ref ((q 0))), (5, .int l5), (7, .int l7)]) hX d_Mo_area_104 rfl zc_1 rfl rfl ?_
        refine g_goto (pc := 107) (tgt := 71) hX d_Mo_area_107 (by decide) ?_
        refine g_ls (L' := [(0, .ref ((q 0))), (5, .int l5), (7, .int l7), (8, .int ((l8 + (1 : Int32))))]) [1, 2, 3, 0] rfl ?_
        exact ih _ _ _ h
def k_Mo_area (x : zsM) (l1 : Int32) (l2 : Int32) (l3 : Int32) (l4 : Int32) (l5 : Int32) : Option (Int32 × zsM) := (k_Mo_isBetween l1 ((0 : Int32)) ((3 : Int32))).bind fun o1 => (if o1 = 0 then some ((-1 : Int32), x) else (k_Mo_isCell l2).bind fun o3 => (if o3 = 0 then some ((-1 : Int32), x) else (k_Mo_isBetween l3 ((0 : Int32)) ((3 : Int32))).bind fun o5 => (if o5 = 0 then some ((-1 : Int32), x) else (k_Mo_isBetween l4 ((0 : Int32)) ((5 : Int32))).bind fun o7 => (if o7 = 0 then some ((-2 : Int32), x) else (if l5 < (-1 : Int32) then some ((-2 : Int32), x) else (k_Mo_findArea x l1 l2 l3 l4).bind fun o10 => (if l5 < 0 then some (o10.1, o10.2) else k_Mo_area_71 l1 l2 l3 l4 l5 zFu ((0 : Int32)) ((0 : Int32)) o10.2))))))
set_option maxRecDepth 20000 in
theorem c_Mo_area (c : zY) (q : Nat → Nat) (x : zsM) (l1 : Int32) (l2 : Int32) (l3 : Int32) (l4 : Int32) (l5 : Int32) {out : Int32 × zsM} (h : k_Mo_area x l1 l2 l3 l4 l5 = some out) : KM zy_Mo_area zb_Mo_area 9 (some .int) 3 c [.ref ((q 0)), .int l1, .int l2, .int l3, .int l4, .int l5] (zwM c q x) (zwM c q out.2) (some (.int out.1)) := zK_of zp_Mo rfl (Nat.le_of_ble_eq_true rfl) (zq_Mo c q _ _) (fun X hX hR => by
  show Go X (zwM c q x) [(0, .ref ((q 0))), (1, .int l1), (2, .int l2), (3, .int l3), (4, .int l4), (5, .int l5)] 0 []
  rw [k_Mo_area] at h
  refine g_iload_n (pc := 0) hX d_Mo_area_0 rfl 1 rfl ?_
  refine g_iconst (pc := 1) hX d_Mo_area_1 zc_0 ?_
  refine g_iconst (pc := 2) hX d_Mo_area_2 zc_3 ?_
  obtain ⟨o1, e1, h⟩ := zbind h
  refine g_csI (pc := 3) (st := []) hX zk_Mo_isBetween zL_Mo_84 (c_Mo_isBetween c l1 ((0 : Int32)) ((3 : Int32)) e1) rfl rfl rfl rfl rfl d_Mo_area_3 ?_
  refine g_if_eq (pc := 6) (tgt := 25) hX d_Mo_area_6 (by decide) h (fun c2 h => ?_) (fun c2 h => ?_)
  · refine g_iconst (pc := 25) hX d_Mo_area_25 zc_m1 ?_
    obtain rfl := Option.some.inj h
    exact g_iret (pc := 26) hX hR d_Mo_area_26
  · refine g_iload_n (pc := 9) hX d_Mo_area_9 rfl 2 rfl ?_
    obtain ⟨o3, e3, h⟩ := zbind h
    refine g_csI (pc := 10) (st := []) hX zk_Mo_isCell zL_Mo_166 (c_Mo_isCell c l2 e3) rfl rfl rfl rfl rfl d_Mo_area_10 ?_
    refine g_if_eq (pc := 13) (tgt := 25) hX d_Mo_area_13 (by decide) h (fun c4 h => ?_) (fun c4 h => ?_)
    · refine g_iconst (pc := 25) hX d_Mo_area_25 zc_m1 ?_
      obtain rfl := Option.some.inj h
      exact g_iret (pc := 26) hX hR d_Mo_area_26
    · refine g_iload_n (pc := 16) hX d_Mo_area_16 rfl 3 rfl ?_
      refine g_iconst (pc := 17) hX d_Mo_area_17 zc_0 ?_
      refine g_iconst (pc := 18) hX d_Mo_area_18 zc_3 ?_
      obtain ⟨o5, e5, h⟩ := zbind h
      refine g_csI (pc := 19) (st := []) hX zk_Mo_isBetween zL_Mo_84 (c_Mo_isBetween c l3 ((0 : Int32)) ((3 : Int32)) e5) rfl rfl rfl rfl rfl d_Mo_area_19 ?_
      refine g_if_ne (pc := 22) (tgt := 27) hX d_Mo_area_22 (by decide) h (fun c6 h => ?_) (fun c6 h => ?_)
      · refine g_iload (pc := 27) hX d_Mo_area_27 4 rfl ?_
        refine g_iconst (pc := 29) hX d_Mo_area_29 zc_0 ?_
        refine g_iconst (pc := 30) hX d_Mo_area_30 zc_5 ?_
        obtain ⟨o7, e7, h⟩ := zbind h
        refine g_csI (pc := 31) (st := []) hX zk_Mo_isBetween zL_Mo_84 (c_Mo_isBetween c l4 ((0 : Int32)) ((5 : Int32)) e7) rfl rfl rfl rfl rfl d_Mo_area_31 ?_
        refine g_if_eq (pc := 34) (tgt := 43) hX d_Mo_area_34 (by decide) h (fun c8 h => ?_) (fun c8 h => ?_)
        · refine g_bipush (pc := 43) hX d_Mo_area_43 ze_m2 ?_
          obtain rfl := Option.some.inj h
          exact g_iret (pc := 45) hX hR d_Mo_area_45
        · refine g_iload (pc := 37) hX d_Mo_area_37 5 rfl ?_
          refine g_iconst (pc := 39) hX d_Mo_area_39 zc_m1 ?_
          refine g_icmp_ge (pc := 40) (tgt := 46) hX d_Mo_area_40 (by decide) h (fun c9 h => ?_) (fun c9 h => ?_)
          · refine g_aload_n (pc := 46) hX d_Mo_area_46 rfl 0 rfl ?_
            refine g_iload_n (pc := 47) hX d_Mo_area_47 rfl 1 rfl ?_
            refine g_iload_n (pc := 48) hX d_Mo_area_48 rfl 2 rfl ?_
            refine g_iload_n (pc := 49) hX d_Mo_area_49 rfl 3 rfl ?_
            refine g_iload (pc := 50) hX d_Mo_area_50 4 rfl ?_
            obtain ⟨o10, e10, h⟩ := zbind h
            refine g_cvI (pc := 52) (w1 := []) (w2 := []) (st := []) (w' := (zwM c q o10.2)) hX zk_Mo_findArea zs_Mo_findArea zL_Mo_263 (c_Mo_findArea c q x l1 l2 l3 l4 e10) rfl rfl rfl rfl (zself _) (zself _).symm 0 10 rfl rfl rfl d_Mo_area_52 ?_
            refine g_istore (pc := 55) (L' := [(6, .int o10.1), (0, .ref ((q 0))), (1, .int l1), (2, .int l2), (3, .int l3), (4, .int l4), (5, .int l5)]) hX d_Mo_area_55 rfl rfl ?_
            refine g_iload (pc := 57) hX d_Mo_area_57 6 rfl ?_
            refine g_if_ge (pc := 59) (tgt := 65) hX d_Mo_area_59 (by decide) h (fun c11 h => ?_) (fun c11 h => ?_)
            · refine g_iconst (pc := 65) hX d_Mo_area_65 zc_0 ?_
              refine g_istore (pc := 66) (L' := [(7, .int ((0 : Int32))), (6, .int o10.1), (0, .ref ((q 0))), (1, .int l1), (2, .int l2), (3, .int l3), (4, .int l4), (5, .int l5)]) hX d_Mo_area_66 rfl rfl ?_
              refine g_iconst (pc := 68) hX d_Mo_area_68 zc_0 ?_
              refine g_istore (pc := 69) (L' := [(8, .int ((0 : Int32))), (7, .int ((0 : Int32))), (6, .int o10.1), (0, .ref ((q 0))), (1, .int l1), (2, .int l2), (3, .int l3), (4, .int l4), (5, .int l5)]) hX d_Mo_area_69 rfl rfl ?_
              refine g_ls (L' := [(0, .ref ((q 0))), (5, .int l5), (7, .int ((0 : Int32))), (8, .int ((0 : Int32)))]) [3, 8, 1, 0] rfl ?_
              exact w_Mo_area_71 hX hR _ _ _ _ h
            · refine g_iload (pc := 62) hX d_Mo_area_62 0 rfl ?_
              obtain rfl := Option.some.inj h
              exact g_iret (pc := 64) hX hR d_Mo_area_64
          · refine g_bipush (pc := 43) hX d_Mo_area_43 ze_m2 ?_
            obtain rfl := Option.some.inj h
            exact g_iret (pc := 45) hX hR d_Mo_area_45
      · refine g_iconst (pc := 25) hX d_Mo_area_25 zc_m1 ?_
        obtain rfl := Option.some.inj h
        exact g_iret (pc := 26) hX hR d_Mo_area_26)
theorem d_Mo_affects_0 : decode zb_Mo_affects 0 = .ok (.aload_n 0, 1) := by decide +kernel
theorem d_Mo_affects_1 : decode zb_Mo_affects 1 = .ok (.getfield 62, 3) := by decide +kernel
theorem d_Mo_affects_4 : decode zb_Mo_affects 4 = .ok (.iload_n 1, 1) := by decide +kernel
theorem d_Mo_affects_5 : decode zb_Mo_affects 5 = .ok (.iaload, 1) := by decide +kernel
theorem d_Mo_affects_6 : decode zb_Mo_affects 6 = .ok (.istore 4, 2) := by decide +kernel
theorem d_Mo_affects_8 : decode zb_Mo_affects 8 = .ok (.aload_n 0, 1) := by decide +kernel
theorem d_Mo_affects_9 : decode zb_Mo_affects 9 = .ok (.getfield 13, 3) := by decide +kernel
theorem d_Mo_affects_12 : decode zb_Mo_affects 12 = .ok (.iload_n 2, 1) := by decide +kernel
theorem d_Mo_affects_13 : decode zb_Mo_affects 13 = .ok (.iaload, 1) := by decide +kernel
theorem d_Mo_affects_14 : decode zb_Mo_affects 14 = .ok (.aload_n 0, 1) := by decide +kernel
theorem d_Mo_affects_15 : decode zb_Mo_affects 15 = .ok (.getfield 13, 3) := by decide +kernel
theorem d_Mo_affects_18 : decode zb_Mo_affects 18 = .ok (.iload_n 3, 1) := by decide +kernel
theorem d_Mo_affects_19 : decode zb_Mo_affects 19 = .ok (.iaload, 1) := by decide +kernel
theorem d_Mo_affects_20 : decode zb_Mo_affects 20 = .ok (.if_icmp .ne 7, 3) := by decide +kernel
theorem d_Mo_affects_23 : decode zb_Mo_affects 23 = .ok (.iconst 1, 1) := by decide +kernel
theorem d_Mo_affects_24 : decode zb_Mo_affects 24 = .ok (.goto 4, 3) := by decide +kernel
theorem d_Mo_affects_27 : decode zb_Mo_affects 27 = .ok (.iconst 0, 1) := by decide +kernel
theorem d_Mo_affects_28 : decode zb_Mo_affects 28 = .ok (.istore 5, 2) := by decide +kernel
theorem d_Mo_affects_30 : decode zb_Mo_affects 30 = .ok (.iload 4, 2) := by decide +kernel
theorem d_Mo_affects_32 : decode zb_Mo_affects 32 = .ok (.bipush 104, 2) := by decide +kernel
theorem d_Mo_affects_34 : decode zb_Mo_affects 34 = .ok (.if_icmp .ne 26, 3) := by decide +kernel
theorem d_Mo_affects_37 : decode zb_Mo_affects 37 = .ok (.iload 5, 2) := by decide +kernel
theorem d_Mo_affects_39 : decode zb_Mo_affects 39 = .ok (.ifCond .ne 130, 3) := by decide +kernel
theorem d_Mo_affects_42 : decode zb_Mo_affects 42 = .ok (.aload_n 0, 1) := by decide +kernel
theorem d_Mo_affects_43 : decode zb_Mo_affects 43 = .ok (.iload_n 2, 1) := by decide +kernel
theorem d_Mo_affects_44 : decode zb_Mo_affects 44 = .ok (.aload_n 0, 1) := by decide +kernel
theorem d_Mo_affects_45 : decode zb_Mo_affects 45 = .ok (.getfield 62, 3) := by decide +kernel
theorem d_Mo_affects_48 : decode zb_Mo_affects 48 = .ok (.iload_n 1, 1) := by decide +kernel
theorem d_Mo_affects_49 : decode zb_Mo_affects 49 = .ok (.iconst 1, 1) := by decide +kernel
theorem d_Mo_affects_50 : decode zb_Mo_affects 50 = .ok (.iadd, 1) := by decide +kernel
theorem d_Mo_affects_51 : decode zb_Mo_affects 51 = .ok (.iaload, 1) := by decide +kernel
theorem d_Mo_affects_52 : decode zb_Mo_affects 52 = .ok (.iconst 0, 1) := by decide +kernel
theorem d_Mo_affects_53 : decode zb_Mo_affects 53 = .ok (.invokevirtual 159, 3) := by decide +kernel
theorem d_Mo_affects_56 : decode zb_Mo_affects 56 = .ok (.pop, 1) := by decide +kernel
theorem d_Mo_affects_57 : decode zb_Mo_affects 57 = .ok (.goto 112, 3) := by decide +kernel
theorem d_Mo_affects_60 : decode zb_Mo_affects 60 = .ok (.iload 4, 2) := by decide +kernel
theorem d_Mo_affects_62 : decode zb_Mo_affects 62 = .ok (.bipush 109, 2) := by decide +kernel
theorem d_Mo_affects_64 : decode zb_Mo_affects 64 = .ok (.if_icmp .ne 25, 3) := by decide +kernel
theorem d_Mo_affects_67 : decode zb_Mo_affects 67 = .ok (.iload 5, 2) := by decide +kernel
theorem d_Mo_affects_69 : decode zb_Mo_affects 69 = .ok (.ifCond .eq 100, 3) := by decide +kernel
theorem d_Mo_affects_72 : decode zb_Mo_affects 72 = .ok (.aload_n 0, 1) := by decide +kernel
theorem d_Mo_affects_73 : decode zb_Mo_affects 73 = .ok (.iload_n 2, 1) := by decide +kernel
theorem d_Mo_affects_74 : decode zb_Mo_affects 74 = .ok (.aload_n 0, 1) := by decide +kernel
theorem d_Mo_affects_75 : decode zb_Mo_affects 75 = .ok (.getfield 62, 3) := by decide +kernel
theorem d_Mo_affects_78 : decode zb_Mo_affects 78 = .ok (.iload_n 1, 1) := by decide +kernel
theorem d_Mo_affects_79 : decode zb_Mo_affects 79 = .ok (.iconst 1, 1) := by decide +kernel
theorem d_Mo_affects_80 : decode zb_Mo_affects 80 = .ok (.iadd, 1) := by decide +kernel
theorem d_Mo_affects_81 : decode zb_Mo_affects 81 = .ok (.iaload, 1) := by decide +kernel
theorem d_Mo_affects_82 : decode zb_Mo_affects 82 = .ok (.invokevirtual 267, 3) := by decide +kernel
theorem d_Mo_affects_85 : decode zb_Mo_affects 85 = .ok (.pop, 1) := by decide +kernel
theorem d_Mo_affects_86 : decode zb_Mo_affects 86 = .ok (.goto 83, 3) := by decide +kernel
theorem d_Mo_affects_89 : decode zb_Mo_affects 89 = .ok (.aload_n 0, 1) := by decide +kernel
theorem d_Mo_affects_90 : decode zb_Mo_affects 90 = .ok (.iload_n 2, 1) := by decide +kernel
theorem d_Mo_affects_91 : decode zb_Mo_affects 91 = .ok (.invokevirtual 110, 3) := by decide +kernel
theorem d_Mo_affects_94 : decode zb_Mo_affects 94 = .ok (.ifCond .ne 75, 3) := by decide +kernel
theorem d_Mo_affects_97 : decode zb_Mo_affects 97 = .ok (.iload 5, 2) := by decide +kernel
theorem d_Mo_affects_99 : decode zb_Mo_affects 99 = .ok (.aload_n 0, 1) := by decide +kernel
theorem d_Mo_affects_100 : decode zb_Mo_affects 100 = .ok (.getfield 62, 3) := by decide +kernel
theorem d_Mo_affects_103 : decode zb_Mo_affects 103 = .ok (.iload_n 1, 1) := by decide +kernel
theorem d_Mo_affects_104 : decode zb_Mo_affects 104 = .ok (.iconst 1, 1) := by decide +kernel
theorem d_Mo_affects_105 : decode zb_Mo_affects 105 = .ok (.iadd, 1) := by decide +kernel
theorem d_Mo_affects_106 : decode zb_Mo_affects 106 = .ok (.iaload, 1) := by decide +kernel
theorem d_Mo_affects_107 : decode zb_Mo_affects 107 = .ok (.iconst 2, 1) := by decide +kernel
theorem d_Mo_affects_108 : decode zb_Mo_affects 108 = .ok (.if_icmp .eq 15, 3) := by decide +kernel
theorem d_Mo_affects_111 : decode zb_Mo_affects 111 = .ok (.aload_n 0, 1) := by decide +kernel
theorem d_Mo_affects_112 : decode zb_Mo_affects 112 = .ok (.getfield 62, 3) := by decide +kernel
theorem d_Mo_affects_115 : decode zb_Mo_affects 115 = .ok (.iload_n 1, 1) := by decide +kernel
theorem d_Mo_affects_116 : decode zb_Mo_affects 116 = .ok (.iconst 1, 1) := by decide +kernel
theorem d_Mo_affects_117 : decode zb_Mo_affects 117 = .ok (.iadd, 1) := by decide +kernel
theorem d_Mo_affects_118 : decode zb_Mo_affects 118 = .ok (.iaload, 1) := by decide +kernel
theorem d_Mo_affects_119 : decode zb_Mo_affects 119 = .ok (.iconst 3, 1) := by decide +kernel
theorem d_Mo_affects_120 : decode zb_Mo_affects 120 = .ok (.if_icmp .ne 7, 3) := by decide +kernel
theorem d_Mo_affects_123 : decode zb_Mo_affects 123 = .ok (.iconst 1, 1) := by decide +kernel
theorem d_Mo_affects_124 : decode zb_Mo_affects 124 = .ok (.goto 4, 3) := by decide +kernel
theorem d_Mo_affects_127 : decode zb_Mo_affects 127 = .ok (.iconst 0, 1) := by decide +kernel
theorem d_Mo_affects_128 : decode zb_Mo_affects 128 = .ok (.if_icmp .ne 41, 3) := by decide +kernel
theorem d_Mo_affects_131 : decode zb_Mo_affects 131 = .ok (.aload_n 0, 1) := by decide +kernel
theorem d_Mo_affects_132 : decode zb_Mo_affects 132 = .ok (.aload_n 0, 1) := by decide +kernel
theorem d_Mo_affects_133 : decode zb_Mo_affects 133 = .ok (.getfield 62, 3) := by decide +kernel
theorem d_Mo_affects_136 : decode zb_Mo_affects 136 = .ok (.iload_n 1, 1) := by decide +kernel
theorem d_Mo_affects_137 : decode zb_Mo_affects 137 = .ok (.iconst 1, 1) := by decide +kernel
theorem d_Mo_affects_138 : decode zb_Mo_affects 138 = .ok (.iadd, 1) := by decide +kernel
theorem d_Mo_affects_139 : decode zb_Mo_affects 139 = .ok (.iaload, 1) := by decide +kernel
theorem d_Mo_affects_140 : decode zb_Mo_affects 140 = .ok (.iload_n 2, 1) := by decide +kernel
theorem d_Mo_affects_141 : decode zb_Mo_affects 141 = .ok (.iload_n 3, 1) := by decide +kernel
theorem d_Mo_affects_142 : decode zb_Mo_affects 142 = .ok (.aload_n 0, 1) := by decide +kernel
theorem d_Mo_affects_143 : decode zb_Mo_affects 143 = .ok (.getfield 62, 3) := by decide +kernel
theorem d_Mo_affects_146 : decode zb_Mo_affects 146 = .ok (.iload_n 1, 1) := by decide +kernel
theorem d_Mo_affects_147 : decode zb_Mo_affects 147 = .ok (.iconst 2, 1) := by decide +kernel
theorem d_Mo_affects_148 : decode zb_Mo_affects 148 = .ok (.iadd, 1) := by decide +kernel
theorem d_Mo_affects_149 : decode zb_Mo_affects 149 = .ok (.iaload, 1) := by decide +kernel
theorem d_Mo_affects_150 : decode zb_Mo_affects 150 = .ok (.aload_n 0, 1) := by decide +kernel
theorem d_Mo_affects_151 : decode zb_Mo_affects 151 = .ok (.getfield 62, 3) := by decide +kernel
theorem d_Mo_affects_154 : decode zb_Mo_affects 154 = .ok (.iload_n 1, 1) := by decide +kernel
theorem d_Mo_affects_155 : decode zb_Mo_affects 155 = .ok (.iconst 3, 1) := by decide +kernel
theorem d_Mo_affects_156 : decode zb_Mo_affects 156 = .ok (.iadd, 1) := by decide +kernel
theorem d_Mo_affects_157 : decode zb_Mo_affects 157 = .ok (.iaload, 1) := by decide +kernel
theorem d_Mo_affects_158 : decode zb_Mo_affects 158 = .ok (.aload_n 0, 1) := by decide +kernel
theorem d_Mo_affects_159 : decode zb_Mo_affects 159 = .ok (.getfield 62, 3) := by decide +kernel
theorem d_Mo_affects_162 : decode zb_Mo_affects 162 = .ok (.iload_n 1, 1) := by decide +kernel
theorem d_Mo_affects_163 : decode zb_Mo_affects 163 = .ok (.iconst 4, 1) := by decide +kernel
theorem d_Mo_affects_164 : decode zb_Mo_affects 164 = .ok (.iadd, 1) := by decide +kernel
theorem d_Mo_affects_165 : decode zb_Mo_affects 165 = .ok (.iaload, 1) := by decide +kernel
theorem d_Mo_affects_166 : decode zb_Mo_affects 166 = .ok (.invokevirtual 270, 3) := by decide +kernel
theorem d_Mo_affects_169 : decode zb_Mo_affects 169 = .ok (.return_, 1) := by decide +kernel
def k_Mo_affects_128 (l1 : Int32) (l2 : Int32) (l3 : Int32) (s0 : Int32) (s1 : Int32) (x : zsM) : Option (zsM) := (if s1 = s0 then (if zOut ((l1 + (1 : Int32))) 100 then none else (if zOut ((l1 + (2 : Int32))) 100 then none else (if zOut ((l1 + (3 : Int32))) 100 then none else (if zOut ((l1 + (4 : Int32))) 100 then none else (k_Mo_makes x ((((x.2 33)) ((l1 + (1 : Int32))).toNatClampNeg)) l2 l3 ((((x.2 33)) ((l1 + (2 : Int32))).toNatClampNeg)) ((((x.2 33)) ((l1 + (3 : Int32))).toNatClampNeg)) ((((x.2 33)) ((l1 + (4 : Int32))).toNatClampNeg))).bind fun o8 => some o8)))) else some x)
set_option maxRecDepth 20000 in
theorem w_Mo_affects_128 {X : zX} {c : zY} {q : Nat → Nat} {l1 : Int32} {l2 : Int32} {l3 : Int32} {out : zsM} (hX : Ok X zr_Mo zb_Mo_affects 6 3 c) (hR : Rt X none none (zwM c q out)) : ∀ (s0 : Int32) (s1 : Int32) (x : zsM), k_Mo_affects_128 l1 l2 l3 s0 s1 x = some out → Go X (zwM c q x) [(0, .ref ((q 0))), (1, .int l1), (2, .int l2), (3, .int l3)] 128 [.int s0, .int s1] := by
  intro s0 s1 x h
  rw [k_Mo_affects_128] at h
  refine g_icmp_ne (pc := 128) (tgt := 169) hX d_Mo_affects_128 (by decide) h (fun c7 h => ?_) (fun c7 h => ?_)
  · obtain rfl := Option.some.inj h
    exact g_vret (pc := 169) hX hR d_Mo_affects_169
  · refine g_aload_n (pc := 131) hX d_Mo_affects_131 rfl 0 rfl ?_
    refine g_aload_n (pc := 132) hX d_Mo_affects_132 rfl 0 rfl ?_
    refine gf_Mo_62 (pc := 133) (v := .ref ((q 17))) hX 0 rfl rfl d_Mo_affects_133 ?_
    refine g_iload_n (pc := 136) hX d_Mo_affects_136 rfl 1 rfl ?_
    refine g_iconst (pc := 137) hX d_Mo_affects_137 zc_1 ?_
    refine g_iadd (pc := 138) hX d_Mo_affects_138 ?_
    refine g_iald (pc := 139) (f := (x.2 33)) hX 17 rfl h d_Mo_affects_139 (fun h => ?_)
    refine g_iload_n (pc := 140) hX d_Mo_affects_140 rfl 2 rfl ?_
    refine g_iload_n (pc := 141) hX d_Mo_affects_141 rfl 3 rfl ?_
    refine g_aload_n (pc := 142) hX d_Mo_affects_142 rfl 0 rfl ?_
    refine gf_Mo_62 (pc := 143) (v := .ref ((q 17))) hX 0 rfl rfl d_Mo_affects_143 ?_
    refine g_iload_n (pc := 146) hX d_Mo_affects_146 rfl 1 rfl ?_
    refine g_iconst (pc := 147) hX d_Mo_affects_147 zc_2 ?_
    refine g_iadd (pc := 148) hX d_Mo_affects_148 ?_
    refine g_iald (pc := 149) (f := (x.2 33)) hX 17 rfl h d_Mo_affects_149 (fun h => ?_)
    refine g_aload_n (pc := 150) hX d_Mo_affects_150 rfl 0 rfl ?_
    refine gf_Mo_62 (pc := 151) (v := .ref ((q 17))) hX 0 rfl rfl d_Mo_affects_151 ?_
    refine g_iload_n (pc := 154) hX d_Mo_affects_154 rfl 1 rfl ?_
    refine g_iconst (pc := 155) hX d_Mo_affects_155 zc_3 ?_
    refine g_iadd (pc := 156) hX d_Mo_affects_156 ?_
    refine g_iald (pc := 157) (f := (x.2 33)) hX 17 rfl h d_Mo_affects_157 (fun h => ?_)
    refine g_aload_n (pc := 158) hX d_Mo_affects_158 rfl 0 rfl ?_
    refine gf_Mo_62 (pc := 159) (v := .ref ((q 17))) hX 0 rfl rfl d_Mo_affects_159 ?_
    refine g_iload_n (pc := 162) hX d_Mo_affects_162 rfl 1 rfl ?_
    refine g_iconst (pc := 163) hX d_Mo_affects_163 zc_4 ?_
    refine g_iadd (pc := 164) hX d_Mo_affects_164 ?_
    refine g_iald (pc := 165) (f := (x.2 33)) hX 17 rfl h d_Mo_affects_165 (fun h => ?_)
    obtain ⟨o8, e8, h⟩ := zbind h
    refine g_cvV (pc := 166) (w1 := []) (w2 := []) (st := []) (w' := (zwM c q o8)) hX zk_Mo_makes zs_Mo_makes zL_Mo_270 (c_Mo_makes c q x ((((x.2 33)) ((l1 + (1 : Int32))).toNatClampNeg)) l2 l3 ((((x.2 33)) ((l1 + (2 : Int32))).toNatClampNeg)) ((((x.2 33)) ((l1 + (3 : Int32))).toNatClampNeg)) ((((x.2 33)) ((l1 + (4 : Int32))).toNatClampNeg)) e8) rfl rfl rfl rfl (zself _) (zself _).symm 0 10 rfl rfl rfl d_Mo_affects_166 ?_
    obtain rfl := Option.some.inj h
    exact g_vret (pc := 169) hX hR d_Mo_affects_169
def k_Mo_affects_28 (l1 : Int32) (l2 : Int32) (l3 : Int32) (l4 : Int32) (s0 : Int32) (x : zsM) : Option (zsM) := (if l4 = (104 : Int32) then (if s0 = 0 then (if zOut ((l1 + (1 : Int32))) 100 then none else (k_Mo_harms x l2 ((((x.2 33)) ((l1 + (1 : Int32))).toNatClampNeg)) ((0 : Int32))).bind fun o13 => some o13.2) else some x) else (if l4 = (109 : Int32) then (if s0 = 0 then some x else (if zOut ((l1 + (1 : Int32))) 100 then none else (k_Mo_mends x l2 ((((x.2 33)) ((l1 + (1 : Int32))).toNatClampNeg))).bind fun o11 => some o11.2)) else (k_Mo_isDown x l2).bind fun o4 => (if o4 = 0 then (if zOut ((l1 + (1 : Int32))) 100 then none else (if (((x.2 33)) ((l1 + (1 : Int32))).toNatClampNeg) = (2 : Int32) then k_Mo_affects_128 l1 l2 l3 ((1 : Int32)) s0 x else (if zOut ((l1 + (1 : Int32))) 100 then none else (if (((x.2 33)) ((l1 + (1 : Int32))).toNatClampNeg) = (3 : Int32) then k_Mo_affects_128 l1 l2 l3 ((1 : Int32)) s0 x else k_Mo_affects_128 l1 l2 l3 ((0 : Int32)) s0 x)))) else some x)))
set_option maxRecDepth 20000 in
theorem w_Mo_affects_28 {X : zX} {c : zY} {q : Nat → Nat} {l1 : Int32} {l2 : Int32} {l3 : Int32} {out : zsM} (hX : Ok X zr_Mo zb_Mo_affects 6 3 c) (hR : Rt X none none (zwM c q out)) : ∀ (l4 : Int32) (s0 : Int32) (x : zsM), k_Mo_affects_28 l1 l2 l3 l4 s0 x = some out → Go X (zwM c q x) [(0, .ref ((q 0))), (1, .int l1), (2, .int l2), (3, .int l3), (4, .int l4)] 28 [.int s0] := by
  intro l4 s0 x h
  rw [k_Mo_affects_28] at h
  refine g_istore (pc := 28) (L' := [(5, .int s0), (0, .ref ((q 0))), (1, .int l1), (2, .int l2), (3, .int l3), (4, .int l4)]) hX d_Mo_affects_28 rfl rfl ?_
  refine g_iload (pc := 30) hX d_Mo_affects_30 5 rfl ?_
  refine g_bipush (pc := 32) hX d_Mo_affects_32 ze_104 ?_
  refine g_icmp_ne (pc := 34) (tgt := 60) hX d_Mo_affects_34 (by decide) h (fun c2 h => ?_) (fun c2 h => ?_)
  · refine g_iload (pc := 60) hX d_Mo_affects_60 5 rfl ?_
    refine g_bipush (pc := 62) hX d_Mo_affects_62 ze_109 ?_
    refine g_icmp_ne (pc := 64) (tgt := 89) hX d_Mo_affects_64 (by decide) h (fun c3 h => ?_) (fun c3 h => ?_)
    · refine g_aload_n (pc := 89) hX d_Mo_affects_89 rfl 1 rfl ?_
      refine g_iload_n (pc := 90) hX d_Mo_affects_90 rfl 3 rfl ?_
      obtain ⟨o4, e4, h⟩ := zbind h
      refine g_cvI (pc := 91) (w1 := []) (w2 := []) (st := []) (w' := (zwM c q x)) hX zk_Mo_isDown zs_Mo_isDown zL_Mo_110 (c_Mo_isDown c q x l2 e4) rfl rfl rfl rfl (zself _) (zself _).symm 0 10 rfl rfl rfl d_Mo_affects_91 ?_
      refine g_if_ne (pc := 94) (tgt := 169) hX d_Mo_affects_94 (by decide) h (fun c5 h => ?_) (fun c5 h => ?_)
      · obtain rfl := Option.some.inj h
        exact g_vret (pc := 169) hX hR d_Mo_affects_169
      · refine g_iload (pc := 97) hX d_Mo_affects_97 0 rfl ?_
        refine g_aload_n (pc := 99) hX d_Mo_affects_99 rfl 1 rfl ?_
        refine gf_Mo_62 (pc := 100) (v := .ref ((q 17))) hX 0 rfl rfl d_Mo_affects_100 ?_
        refine g_iload_n (pc := 103) hX d_Mo_affects_103 rfl 2 rfl ?_
        refine g_iconst (pc := 104) hX d_Mo_affects_104 zc_1 ?_
        refine g_iadd (pc := 105) hX d_Mo_affects_105 ?_
        refine g_iald (pc := 106) (f := (x.2 33)) hX 17 rfl h d_Mo_affects_106 (fun h => ?_)
        refine g_iconst (pc := 107) hX d_Mo_affects_107 zc_2 ?_
        refine g_icmp_eq (pc := 108) (tgt := 123) hX d_Mo_affects_108 (by decide) h (fun c6 h => ?_) (fun c6 h => ?_)
        · refine g_iconst (pc := 123) hX d_Mo_affects_123 zc_1 ?_
          refine g_goto (pc := 124) (tgt := 128) hX d_Mo_affects_124 (by decide) ?_
          refine g_ls (L' := [(0, .ref ((q 0))), (1, .int l1), (2, .int l2), (3, .int l3)]) [1, 2, 3, 4] rfl ?_
          exact w_Mo_affects_128 hX hR _ _ _ h
        · refine g_aload_n (pc := 111) hX d_Mo_affects_111 rfl 1 rfl ?_
          refine gf_Mo_62 (pc := 112) (v := .ref ((q 17))) hX 0 rfl rfl d_Mo_affects_112 ?_
          refine g_iload_n (pc := 115) hX d_Mo_affects_115 rfl 2 rfl ?_
          refine g_iconst (pc := 116) hX d_Mo_affects_116 zc_1 ?_
          refine g_iadd (pc := 117) hX d_Mo_affects_117 ?_
          refine g_iald (pc := 118) (f := (x.2 33)) hX 17 rfl h d_Mo_affects_118 (fun h => ?_)
          refine g_iconst (pc := 119) hX d_Mo_affects_119 zc_3 ?_
          refine g_icmp_ne (pc := 120) (tgt := 127) hX d_Mo_affects_120 (by decide) h (fun c9 h => ?_) (fun c9 h => ?_)
          · refine g_iconst (pc := 127) hX d_Mo_affects_127 zc_0 ?_
            refine g_ls (L' := [(0, .ref ((q 0))), (1, .int l1), (2, .int l2), (3, .int l3)]) [1, 2, 3, 4] rfl ?_
            exact w_Mo_affects_128 hX hR _ _ _ h
          · refine g_iconst (pc := 123) hX d_Mo_affects_123 zc_1 ?_
            refine g_goto (pc := 124) (tgt := 128) hX d_Mo_affects_124 (by decide) ?_
            refine g_ls (L' := [(0, .ref ((q 0))), (1, .int l1), (2, .int l2), (3, .int l3)]) [1, 2, 3, 4] rfl ?_
            exact w_Mo_affects_128 hX hR _ _ _ h
    · refine g_iload (pc := 67) hX d_Mo_affects_67 0 rfl ?_
      refine g_if_eq (pc := 69) (tgt := 169) hX d_Mo_affects_69 (by decide) h (fun c10 h => ?_) (fun c10 h => ?_)
      · obtain rfl := Option.some.inj h
        exact g_vret (pc := 169) hX hR d_Mo_affects_169
      · refine g_aload_n (pc := 72) hX d_Mo_affects_72 rfl 1 rfl ?_
        refine g_iload_n (pc := 73) hX d_Mo_affects_73 rfl 3 rfl ?_
        refine g_aload_n (pc := 74) hX d_Mo_affects_74 rfl 1 rfl ?_
        refine gf_Mo_62 (pc := 75) (v := .ref ((q 17))) hX 0 rfl rfl d_Mo_affects_75 ?_
        refine g_iload_n (pc := 78) hX d_Mo_affects_78 rfl 2 rfl ?_
        refine g_iconst (pc := 79) hX d_Mo_affects_79 zc_1 ?_
        refine g_iadd (pc := 80) hX d_Mo_affects_80 ?_
        refine g_iald (pc := 81) (f := (x.2 33)) hX 17 rfl h d_Mo_affects_81 (fun h => ?_)
        obtain ⟨o11, e11, h⟩ := zbind h
        refine g_cvI (pc := 82) (w1 := []) (w2 := []) (st := []) (w' := (zwM c q o11.2)) hX zk_Mo_mends zs_Mo_mends zL_Mo_267 (c_Mo_mends c q x l2 ((((x.2 33)) ((l1 + (1 : Int32))).toNatClampNeg)) e11) rfl rfl rfl rfl (zself _) (zself _).symm 0 10 rfl rfl rfl d_Mo_affects_82 ?_
        refine g_pop (pc := 85) hX d_Mo_affects_85 rfl ?_
        refine g_goto (pc := 86) (tgt := 169) hX d_Mo_affects_86 (by decide) ?_
        obtain rfl := Option.some.inj h
        exact g_vret (pc := 169) hX hR d_Mo_affects_169
  · refine g_iload (pc := 37) hX d_Mo_affects_37 0 rfl ?_
    refine g_if_ne (pc := 39) (tgt := 169) hX d_Mo_affects_39 (by decide) h (fun c12 h => ?_) (fun c12 h => ?_)
    · obtain rfl := Option.some.inj h
      exact g_vret (pc := 169) hX hR d_Mo_affects_169
    · refine g_aload_n (pc := 42) hX d_Mo_affects_42 rfl 1 rfl ?_
      refine g_iload_n (pc := 43) hX d_Mo_affects_43 rfl 3 rfl ?_
      refine g_aload_n (pc := 44) hX d_Mo_affects_44 rfl 1 rfl ?_
      refine gf_Mo_62 (pc := 45) (v := .ref ((q 17))) hX 0 rfl rfl d_Mo_affects_45 ?_
      refine g_iload_n (pc := 48) hX d_Mo_affects_48 rfl 2 rfl ?_
      refine g_iconst (pc := 49) hX d_Mo_affects_49 zc_1 ?_
      refine g_iadd (pc := 50) hX d_Mo_affects_50 ?_
      refine g_iald (pc := 51) (f := (x.2 33)) hX 17 rfl h d_Mo_affects_51 (fun h => ?_)
      refine g_iconst (pc := 52) hX d_Mo_affects_52 zc_0 ?_
      obtain ⟨o13, e13, h⟩ := zbind h
      refine g_cvI (pc := 53) (w1 := []) (w2 := []) (st := []) (w' := (zwM c q o13.2)) hX zk_Mo_harms zs_Mo_harms zL_Mo_159 (c_Mo_harms c q x l2 ((((x.2 33)) ((l1 + (1 : Int32))).toNatClampNeg)) ((0 : Int32)) e13) rfl rfl rfl rfl (zself _) (zself _).symm 0 10 rfl rfl rfl d_Mo_affects_53 ?_
      refine g_pop (pc := 56) hX d_Mo_affects_56 rfl ?_
      refine g_goto (pc := 57) (tgt := 169) hX d_Mo_affects_57 (by decide) ?_
      obtain rfl := Option.some.inj h
      exact g_vret (pc := 169) hX hR d_Mo_affects_169
def k_Mo_affects (x : zsM) (l1 : Int32) (l2 : Int32) (l3 : Int32) : Option (zsM) := (if zOut l1 100 then none else (if zOut l2 8 then none else (if zOut l3 8 then none else (if (((x.2 1)) l2.toNatClampNeg) = (((x.2 1)) l3.toNatClampNeg) then k_Mo_affects_28 l1 l2 l3 ((((x.2 33)) l1.toNatClampNeg)) ((1 : Int32)) x else k_Mo_affects_28 l1 l2 l3 ((((x.2 33)) l1.toNatClampNeg)) ((0 : Int32)) x))))
set_option maxRecDepth 20000 in
theorem c_Mo_affects (c : zY) (q : Nat → Nat) (x : zsM) (l1 : Int32) (l2 : Int32) (l3 : Int32) {out : zsM} (h : k_Mo_affects x l1 l2 l3 = some out) : KM zy_Mo_affects zb_Mo_affects 6 none 3 c [.ref ((q 0)), .int l1, .int l2, .int l3] (zwM c q x) (zwM c q out) none := zK_of zp_Mo rfl (Nat.le_of_ble_eq_true rfl) (zq_Mo c q _ _) (fun X hX hR => by
  show Go X (zwM c q x) [(0, .ref ((q 0))), (1, .int l1), (2, .int l2), (3, .int l3)] 0 []
  rw [k_Mo_affects] at h
  refine g_aload_n (pc := 0) hX d_Mo_affects_0 rfl 0 rfl ?_
  refine gf_Mo_62 (pc := 1) (v := .ref ((q 17))) hX 0 rfl rfl d_Mo_affects_1 ?_
  refine g_iload_n (pc := 4) hX d_Mo_affects_4 rfl 1 rfl ?_
  refine g_iald (pc := 5) (f := (x.2 33)) hX 17 rfl h d_Mo_affects_5 (fun h => ?_)
  refine g_istore (pc := 6) (L' := [(4, .int ((((x.2 33)) l1.toNatClampNeg))), (0, .ref ((q 0))), (1, .int l1), (2, .int l2), (3, .int l3)]) hX d_Mo_affects_6 rfl rfl ?_
  refine g_aload_n (pc := 8) hX d_Mo_affects_8 rfl 1 rfl ?_
  refine gf_Mo_13 (pc := 9) (v := .ref ((q 2))) hX 0 rfl rfl d_Mo_affects_9 ?_
  refine g_iload_n (pc := 12) hX d_Mo_affects_12 rfl 3 rfl ?_
  refine g_iald (pc := 13) (f := (x.2 1)) hX 2 rfl h d_Mo_affects_13 (fun h => ?_)
  refine g_aload_n (pc := 14) hX d_Mo_affects_14 rfl 1 rfl ?_
  refine gf_Mo_13 (pc := 15) (v := .ref ((q 2))) hX 0 rfl rfl d_Mo_affects_15 ?_
  refine g_iload_n (pc := 18) hX d_Mo_affects_18 rfl 4 rfl ?_
  refine g_iald (pc := 19) (f := (x.2 1)) hX 2 rfl h d_Mo_affects_19 (fun h => ?_)
  refine g_icmp_ne (pc := 20) (tgt := 27) hX d_Mo_affects_20 (by decide) h (fun c1 h => ?_) (fun c1 h => ?_)
  · refine g_iconst (pc := 27) hX d_Mo_affects_27 zc_0 ?_
    refine g_ls (L' := [(0, .ref ((q 0))), (1, .int l1), (2, .int l2), (3, .int l3), (4, .int ((((x.2 33)) l1.toNatClampNeg)))]) [1, 2, 3, 4, 0] rfl ?_
    exact w_Mo_affects_28 hX hR _ _ _ h
  · refine g_iconst (pc := 23) hX d_Mo_affects_23 zc_1 ?_
    refine g_goto (pc := 24) (tgt := 28) hX d_Mo_affects_24 (by decide) ?_
    refine g_ls (L' := [(0, .ref ((q 0))), (1, .int l1), (2, .int l2), (3, .int l3), (4, .int ((((x.2 33)) l1.toNatClampNeg)))]) [1, 2, 3, 4, 0] rfl ?_
    exact w_Mo_affects_28 hX hR _ _ _ h)
theorem d_Mo_inTurn_0 : decode zb_Mo_inTurn 0 = .ok (.iload_n 1, 1) := by decide +kernel
theorem d_Mo_inTurn_1 : decode zb_Mo_inTurn 1 = .ok (.aload_n 0, 1) := by decide +kernel
theorem d_Mo_inTurn_2 : decode zb_Mo_inTurn 2 = .ok (.getfield 133, 3) := by decide +kernel
theorem d_Mo_inTurn_5 : decode zb_Mo_inTurn 5 = .ok (.if_icmp .ge 10, 3) := by decide +kernel
theorem d_Mo_inTurn_8 : decode zb_Mo_inTurn 8 = .ok (.aload_n 0, 1) := by decide +kernel
theorem d_Mo_inTurn_9 : decode zb_Mo_inTurn 9 = .ok (.getfield 40, 3) := by decide +kernel
theorem d_Mo_inTurn_12 : decode zb_Mo_inTurn 12 = .ok (.iload_n 1, 1) := by decide +kernel
theorem d_Mo_inTurn_13 : decode zb_Mo_inTurn 13 = .ok (.iaload, 1) := by decide +kernel
theorem d_Mo_inTurn_14 : decode zb_Mo_inTurn 14 = .ok (.ireturn, 1) := by decide +kernel
theorem d_Mo_inTurn_15 : decode zb_Mo_inTurn 15 = .ok (.iload_n 1, 1) := by decide +kernel
theorem d_Mo_inTurn_16 : decode zb_Mo_inTurn 16 = .ok (.aload_n 0, 1) := by decide +kernel
theorem d_Mo_inTurn_17 : decode zb_Mo_inTurn 17 = .ok (.getfield 133, 3) := by decide +kernel
theorem d_Mo_inTurn_20 : decode zb_Mo_inTurn 20 = .ok (.isub, 1) := by decide +kernel
theorem d_Mo_inTurn_21 : decode zb_Mo_inTurn 21 = .ok (.istore_n 2, 1) := by decide +kernel
theorem d_Mo_inTurn_22 : decode zb_Mo_inTurn 22 = .ok (.iconst 0, 1) := by decide +kernel
theorem d_Mo_inTurn_23 : decode zb_Mo_inTurn 23 = .ok (.istore_n 3, 1) := by decide +kernel
theorem d_Mo_inTurn_24 : decode zb_Mo_inTurn 24 = .ok (.iload_n 3, 1) := by decide +kernel
theorem d_Mo_inTurn_25 : decode zb_Mo_inTurn 25 = .ok (.aload_n 0, 1) := by decide +kernel
theorem d_Mo_inTurn_26 : decode zb_Mo_inTurn 26 = .ok (.getfield 81, 3) := by decide +kernel
theorem d_Mo_inTurn_29 : decode zb_Mo_inTurn 29 = .ok (.if_icmp .ge 29, 3) := by decide +kernel
theorem d_Mo_inTurn_32 : decode zb_Mo_inTurn 32 = .ok (.aload_n 0, 1) := by decide +kernel
theorem d_Mo_inTurn_33 : decode zb_Mo_inTurn 33 = .ok (.iload_n 3, 1) := by decide +kernel
theorem d_Mo_inTurn_34 : decode zb_Mo_inTurn 34 = .ok (.invokevirtual 200, 3) := by decide +kernel
theorem d_Mo_inTurn_37 : decode zb_Mo_inTurn 37 = .ok (.ifCond .lt 6, 3) := by decide +kernel
theorem d_Mo_inTurn_40 : decode zb_Mo_inTurn 40 = .ok (.goto 12, 3) := by decide +kernel
theorem d_Mo_inTurn_43 : decode zb_Mo_inTurn 43 = .ok (.iload_n 2, 1) := by decide +kernel
theorem d_Mo_inTurn_44 : decode zb_Mo_inTurn 44 = .ok (.ifCond .ne 5, 3) := by decide +kernel
theorem d_Mo_inTurn_47 : decode zb_Mo_inTurn 47 = .ok (.iload_n 3, 1) := by decide +kernel
theorem d_Mo_inTurn_48 : decode zb_Mo_inTurn 48 = .ok (.ireturn, 1) := by decide +kernel
theorem d_Mo_inTurn_49 : decode zb_Mo_inTurn 49 = .ok (.iinc 2 (-1), 3) := by decide +kernel
theorem d_Mo_inTurn_52 : decode zb_Mo_inTurn 52 = .ok (.iinc 3 1, 3) := by decide +kernel
theorem d_Mo_inTurn_55 : decode zb_Mo_inTurn 55 = .ok (.goto (-31), 3) := by decide +kernel
theorem d_Mo_inTurn_58 : decode zb_Mo_inTurn 58 = .ok (.iconst (-1), 1) := by decide +kernel
theorem d_Mo_inTurn_59 : decode zb_Mo_inTurn 59 = .ok (.ireturn, 1) := by decide +kernel
def k_Mo_inTurn_24 (x : zsM) (l1 : Int32) : Nat → Int32 → Int32 → Option (Int32)
  | 0, _, _ => none
  | fu + 1, l2, l3 => (if l3 < (x.1 11) then (k_Mo_placeOf x l3).bind fun o3 => (if o3 < 0 then (if l2 = 0 then some l3 else k_Mo_inTurn_24 x l1 fu ((l2 + (-1 : Int32))) ((l3 + (1 : Int32)))) else k_Mo_inTurn_24 x l1 fu l2 ((l3 + (1 : Int32)))) else some ((-1 : Int32)))
set_option maxRecDepth 20000 in
theorem w_Mo_inTurn_24 {X : zX} {c : zY} {q : Nat → Nat} {x : zsM} {l1 : Int32} {out : Int32} (hX : Ok X zr_Mo zb_Mo_inTurn 4 1 c) (hR : Rt X (some .int) (some (.int out)) (zwM c q x)) : ∀ (fu : Nat) (l2 : Int32) (l3 : Int32), k_Mo_inTurn_24 x l1 fu l2 l3 = some out → Go X (zwM c q x) [(0, .ref ((q 0))), (2, .int l2), (3, .int l3)] 24 [] := by
  intro fu
  induction fu with
  | zero => intro l2 l3 h; rw [k_Mo_inTurn_24] at h; cases h
  | succ fu ih =>
    intro l2 l3 h
    rw [k_Mo_inTurn_24] at h
    refine g_iload_n (pc := 24) hX d_Mo_inTurn_24 rfl 2 rfl ?_
    refine g_aload_n (pc := 25) hX d_Mo_inTurn_25 rfl 0 rfl ?_
    refine gf_Mo_81 (pc := 26) (v := .int ((x.1 11))) hX 0 rfl rfl d_Mo_inTurn_26 ?_
    refine g_icmp_ge (pc := 29) (tgt := 58) hX d_Mo_inTurn_29 (by decide) h (fun c2 h => ?_) (fun c2 h => ?_)
    · refine g_iconst (pc := 58) hX d_Mo_inTurn_58 zc_m1 ?_
      obtain rfl := Option.some.inj h
      exact g_iret (pc := 59) hX hR d_Mo_inTurn_59
    · refine g_aload_n (pc := 32) hX d_Mo_inTurn_32 rfl 0 rfl ?_
      refine g_iload_n (pc := 33) hX d_Mo_inTurn_33 rfl 2 rfl ?_
      obtain ⟨o3, e3, h⟩ := zbind h
      refine g_cvI (pc := 34) (w1 := []) (w2 := []) (st := []) (w' := (zwM c q x)) hX zk_Mo_placeOf zs_Mo_placeOf zL_Mo_200 (c_Mo_placeOf c q x l3 e3) rfl rfl rfl rfl (zself _) (zself _).symm 0 10 rfl rfl rfl d_Mo_inTurn_34 ?_
      refine g_if_lt (pc := 37) (tgt := 43) hX d_Mo_inTurn_37 (by decide) h (fun c4 h => ?_) (fun c4 h => ?_)
      · refine g_iload_n (pc := 43) hX d_Mo_inTurn_43 rfl 1 rfl ?_
        refine g_if_ne (pc := 44) (tgt := 49) hX d_Mo_inTurn_44 (by decide) h (fun c5 h => ?_) (fun c5 h => ?_)
        · refine g_iinc (pc := 49) (q := 1) (L' := [(2, .int ((l2 + (-1 : Int32)))), (0, .ref ((q 0))), (3, .int l3)]) hX d_Mo_inTurn_49 rfl zc_m1 rfl rfl ?_
          refine g_iinc (pc := 52) (q := 2) (L' := [(3, .int ((l3 + (1 : Int32)))), (2, .int ((l2 + (-1 : Int32)))), (0, .ref ((q 0)))]) hX d_Mo_inTurn_52 rfl zc_1 rfl rfl ?_
          refine g_goto (pc := 55) (tgt := 24) hX d_Mo_inTurn_55 (by decide) ?_
          refine g_ls (L' := [(0, .ref ((q 0))), (2, .int ((l2 + (-1 : Int32)))), (3, .int ((l3 + (1 : Int32))))]) [2, 1, 0] rfl ?_
          exact ih _ _ h
        · refine g_iload_n (pc := 47) hX d_Mo_inTurn_47 rfl 2 rfl ?_
          obtain rfl := Option.some.inj h
          exact g_iret (pc := 48) hX hR d_Mo_inTurn_48
      · refine g_goto (pc := 40) (tgt := 52) hX d_Mo_inTurn_40 (by decide) ?_
        refine g_iinc (pc := 52) (q := 2) (L' := [(3, .int ((l3 + (1 : Int32)))), (0, .ref ((q 0))), (2, .int l2)]) hX d_Mo_inTurn_52 rfl zc_1 rfl rfl ?_
        refine g_goto (pc := 55) (tgt := 24) hX d_Mo_inTurn_55 (by decide) ?_
        refine g_ls (L' := [(0, .ref ((q 0))), (2, .int l2), (3, .int ((l3 + (1 : Int32))))]) [1, 2, 0] rfl ?_
        exact ih _ _ h
def k_Mo_inTurn (x : zsM) (l1 : Int32) : Option (Int32) := (if l1 < (x.1 21) then (if zOut l1 8 then none else some ((((x.2 10)) l1.toNatClampNeg))) else k_Mo_inTurn_24 x l1 zFu ((l1 - (x.1 21))) ((0 : Int32)))
set_option maxRecDepth 20000 in
theorem c_Mo_inTurn (c : zY) (q : Nat → Nat) (x : zsM) (l1 : Int32) {out : Int32} (h : k_Mo_inTurn x l1 = some out) : KM zy_Mo_inTurn zb_Mo_inTurn 4 (some .int) 1 c [.ref ((q 0)), .int l1] (zwM c q x) (zwM c q x) (some (.int out)) := zK_of zp_Mo rfl (Nat.le_of_ble_eq_true rfl) (zq_Mo c q _ _) (fun X hX hR => by
  show Go X (zwM c q x) [(0, .ref ((q 0))), (1, .int l1)] 0 []
  rw [k_Mo_inTurn] at h
  refine g_iload_n (pc := 0) hX d_Mo_inTurn_0 rfl 1 rfl ?_
  refine g_aload_n (pc := 1) hX d_Mo_inTurn_1 rfl 0 rfl ?_
  refine gf_Mo_133 (pc := 2) (v := .int ((x.1 21))) hX 0 rfl rfl d_Mo_inTurn_2 ?_
  refine g_icmp_ge (pc := 5) (tgt := 15) hX d_Mo_inTurn_5 (by decide) h (fun c1 h => ?_) (fun c1 h => ?_)
  · refine g_iload_n (pc := 15) hX d_Mo_inTurn_15 rfl 1 rfl ?_
    refine g_aload_n (pc := 16) hX d_Mo_inTurn_16 rfl 0 rfl ?_
    refine gf_Mo_133 (pc := 17) (v := .int ((x.1 21))) hX 0 rfl rfl d_Mo_inTurn_17 ?_
    refine g_isub (pc := 20) hX d_Mo_inTurn_20 ?_
    refine g_istore_n (pc := 21) (L' := [(2, .int ((l1 - (x.1 21)))), (0, .ref ((q 0))), (1, .int l1)]) hX d_Mo_inTurn_21 rfl rfl rfl ?_
    refine g_iconst (pc := 22) hX d_Mo_inTurn_22 zc_0 ?_
    refine g_istore_n (pc := 23) (L' := [(3, .int ((0 : Int32))), (2, .int ((l1 - (x.1 21)))), (0, .ref ((q 0))), (1, .int l1)]) hX d_Mo_inTurn_23 rfl rfl rfl ?_
    refine g_ls (L' := [(0, .ref ((q 0))), (2, .int ((l1 - (x.1 21)))), (3, .int ((0 : Int32)))]) [2, 1, 0] rfl ?_
    exact w_Mo_inTurn_24 hX hR _ _ _ h
  · refine g_aload_n (pc := 8) hX d_Mo_inTurn_8 rfl 0 rfl ?_
    refine gf_Mo_40 (pc := 9) (v := .ref ((q 11))) hX 0 rfl rfl d_Mo_inTurn_9 ?_
    refine g_iload_n (pc := 12) hX d_Mo_inTurn_12 rfl 1 rfl ?_
    refine g_iald (pc := 13) (f := (x.2 10)) hX 11 rfl h d_Mo_inTurn_13 (fun h => ?_)
    obtain rfl := Option.some.inj h
    exact g_iret (pc := 14) hX hR d_Mo_inTurn_14)
theorem d_Mo_cast_0 : decode zb_Mo_cast 0 = .ok (.iload_n 1, 1) := by decide +kernel
theorem d_Mo_cast_1 : decode zb_Mo_cast 1 = .ok (.iconst 0, 1) := by decide +kernel
theorem d_Mo_cast_2 : decode zb_Mo_cast 2 = .ok (.iconst 3, 1) := by decide +kernel
theorem d_Mo_cast_3 : decode zb_Mo_cast 3 = .ok (.invokestatic 84, 3) := by decide +kernel
theorem d_Mo_cast_6 : decode zb_Mo_cast 6 = .ok (.ifCond .eq 19, 3) := by decide +kernel
theorem d_Mo_cast_9 : decode zb_Mo_cast 9 = .ok (.iload_n 2, 1) := by decide +kernel
theorem d_Mo_cast_10 : decode zb_Mo_cast 10 = .ok (.invokestatic 166, 3) := by decide +kernel
theorem d_Mo_cast_13 : decode zb_Mo_cast 13 = .ok (.ifCond .eq 12, 3) := by decide +kernel
theorem d_Mo_cast_16 : decode zb_Mo_cast 16 = .ok (.iload_n 3, 1) := by decide +kernel
theorem d_Mo_cast_17 : decode zb_Mo_cast 17 = .ok (.iconst 0, 1) := by decide +kernel
theorem d_Mo_cast_18 : decode zb_Mo_cast 18 = .ok (.iconst 3, 1) := by decide +kernel
theorem d_Mo_cast_19 : decode zb_Mo_cast 19 = .ok (.invokestatic 84, 3) := by decide +kernel
theorem d_Mo_cast_22 : decode zb_Mo_cast 22 = .ok (.ifCond .ne 5, 3) := by decide +kernel
theorem d_Mo_cast_25 : decode zb_Mo_cast 25 = .ok (.iconst (-1), 1) := by decide +kernel
theorem d_Mo_cast_26 : decode zb_Mo_cast 26 = .ok (.ireturn, 1) := by decide +kernel
theorem d_Mo_cast_27 : decode zb_Mo_cast 27 = .ok (.aload_n 0, 1) := by decide +kernel
theorem d_Mo_cast_28 : decode zb_Mo_cast 28 = .ok (.getfield 181, 3) := by decide +kernel
theorem d_Mo_cast_31 : decode zb_Mo_cast 31 = .ok (.ifCond .ne 9, 3) := by decide +kernel
theorem d_Mo_cast_34 : decode zb_Mo_cast 34 = .ok (.aload_n 0, 1) := by decide +kernel
theorem d_Mo_cast_35 : decode zb_Mo_cast 35 = .ok (.iconst 1, 1) := by decide +kernel
theorem d_Mo_cast_36 : decode zb_Mo_cast 36 = .ok (.invokevirtual 172, 3) := by decide +kernel
theorem d_Mo_cast_39 : decode zb_Mo_cast 39 = .ok (.ireturn, 1) := by decide +kernel
theorem d_Mo_cast_40 : decode zb_Mo_cast 40 = .ok (.aload_n 0, 1) := by decide +kernel
theorem d_Mo_cast_41 : decode zb_Mo_cast 41 = .ok (.invokevirtual 136, 3) := by decide +kernel
theorem d_Mo_cast_44 : decode zb_Mo_cast 44 = .ok (.istore 4, 2) := by decide +kernel
theorem d_Mo_cast_46 : decode zb_Mo_cast 46 = .ok (.aload_n 0, 1) := by decide +kernel
theorem d_Mo_cast_47 : decode zb_Mo_cast 47 = .ok (.iload 4, 2) := by decide +kernel
theorem d_Mo_cast_49 : decode zb_Mo_cast 49 = .ok (.invokevirtual 197, 3) := by decide +kernel
theorem d_Mo_cast_52 : decode zb_Mo_cast 52 = .ok (.ifCond .ne 9, 3) := by decide +kernel
theorem d_Mo_cast_55 : decode zb_Mo_cast 55 = .ok (.aload_n 0, 1) := by decide +kernel
theorem d_Mo_cast_56 : decode zb_Mo_cast 56 = .ok (.iconst 3, 1) := by decide +kernel
theorem d_Mo_cast_57 : decode zb_Mo_cast 57 = .ok (.invokevirtual 172, 3) := by decide +kernel
theorem d_Mo_cast_60 : decode zb_Mo_cast 60 = .ok (.ireturn, 1) := by decide +kernel
theorem d_Mo_cast_61 : decode zb_Mo_cast 61 = .ok (.aload_n 0, 1) := by decide +kernel
theorem d_Mo_cast_62 : decode zb_Mo_cast 62 = .ok (.getfield 143, 3) := by decide +kernel
theorem d_Mo_cast_65 : decode zb_Mo_cast 65 = .ok (.iconst 1, 1) := by decide +kernel
theorem d_Mo_cast_66 : decode zb_Mo_cast 66 = .ok (.if_icmp .ne 9, 3) := by decide +kernel
theorem d_Mo_cast_69 : decode zb_Mo_cast 69 = .ok (.aload_n 0, 1) := by decide +kernel
theorem d_Mo_cast_70 : decode zb_Mo_cast 70 = .ok (.iconst 4, 1) := by decide +kernel
theorem d_Mo_cast_71 : decode zb_Mo_cast 71 = .ok (.invokevirtual 172, 3) := by decide +kernel
theorem d_Mo_cast_74 : decode zb_Mo_cast 74 = .ok (.ireturn, 1) := by decide +kernel
theorem d_Mo_cast_75 : decode zb_Mo_cast 75 = .ok (.aload_n 0, 1) := by decide +kernel
theorem d_Mo_cast_76 : decode zb_Mo_cast 76 = .ok (.getfield 253, 3) := by decide +kernel
theorem d_Mo_cast_79 : decode zb_Mo_cast 79 = .ok (.iload_n 1, 1) := by decide +kernel
theorem d_Mo_cast_80 : decode zb_Mo_cast 80 = .ok (.ishr, 1) := by decide +kernel
theorem d_Mo_cast_81 : decode zb_Mo_cast 81 = .ok (.iconst 1, 1) := by decide +kernel
theorem d_Mo_cast_82 : decode zb_Mo_cast 82 = .ok (.iand, 1) := by decide +kernel
theorem d_Mo_cast_83 : decode zb_Mo_cast 83 = .ok (.ifCond .ne 10, 3) := by decide +kernel
theorem d_Mo_cast_86 : decode zb_Mo_cast 86 = .ok (.aload_n 0, 1) := by decide +kernel
theorem d_Mo_cast_87 : decode zb_Mo_cast 87 = .ok (.bipush 8, 2) := by decide +kernel
theorem d_Mo_cast_89 : decode zb_Mo_cast 89 = .ok (.invokevirtual 172, 3) := by decide +kernel
theorem d_Mo_cast_92 : decode zb_Mo_cast 92 = .ok (.ireturn, 1) := by decide +kernel
theorem d_Mo_cast_93 : decode zb_Mo_cast 93 = .ok (.bipush 25, 2) := by decide +kernel
theorem d_Mo_cast_95 : decode zb_Mo_cast 95 = .ok (.iload_n 1, 1) := by decide +kernel
theorem d_Mo_cast_96 : decode zb_Mo_cast 96 = .ok (.imul, 1) := by decide +kernel
theorem d_Mo_cast_97 : decode zb_Mo_cast 97 = .ok (.istore 5, 2) := by decide +kernel
theorem d_Mo_cast_99 : decode zb_Mo_cast 99 = .ok (.iconst 3, 1) := by decide +kernel
theorem d_Mo_cast_100 : decode zb_Mo_cast 100 = .ok (.iload 4, 2) := by decide +kernel
theorem d_Mo_cast_102 : decode zb_Mo_cast 102 = .ok (.imul, 1) := by decide +kernel
theorem d_Mo_cast_103 : decode zb_Mo_cast 103 = .ok (.aload_n 0, 1) := by decide +kernel
theorem d_Mo_cast_104 : decode zb_Mo_cast 104 = .ok (.getfield 62, 3) := by decide +kernel
theorem d_Mo_cast_107 : decode zb_Mo_cast 107 = .ok (.iload 5, 2) := by decide +kernel
theorem d_Mo_cast_109 : decode zb_Mo_cast 109 = .ok (.bipush 23, 2) := by decide +kernel
theorem d_Mo_cast_111 : decode zb_Mo_cast 111 = .ok (.iadd, 1) := by decide +kernel
theorem d_Mo_cast_112 : decode zb_Mo_cast 112 = .ok (.iaload, 1) := by decide +kernel
theorem d_Mo_cast_113 : decode zb_Mo_cast 113 = .ok (.iadd, 1) := by decide +kernel
theorem d_Mo_cast_114 : decode zb_Mo_cast 114 = .ok (.istore 6, 2) := by decide +kernel
theorem d_Mo_cast_116 : decode zb_Mo_cast 116 = .ok (.aload_n 0, 1) := by decide +kernel
theorem d_Mo_cast_117 : decode zb_Mo_cast 117 = .ok (.getfield 62, 3) := by decide +kernel
theorem d_Mo_cast_120 : decode zb_Mo_cast 120 = .ok (.iload 5, 2) := by decide +kernel
theorem d_Mo_cast_122 : decode zb_Mo_cast 122 = .ok (.bipush 24, 2) := by decide +kernel
theorem d_Mo_cast_124 : decode zb_Mo_cast 124 = .ok (.iadd, 1) := by decide +kernel
theorem d_Mo_cast_125 : decode zb_Mo_cast 125 = .ok (.iaload, 1) := by decide +kernel
theorem d_Mo_cast_126 : decode zb_Mo_cast 126 = .ok (.istore 7, 2) := by decide +kernel
theorem d_Mo_cast_128 : decode zb_Mo_cast 128 = .ok (.aload_n 0, 1) := by decide +kernel
theorem d_Mo_cast_129 : decode zb_Mo_cast 129 = .ok (.getfield 34, 3) := by decide +kernel
theorem d_Mo_cast_132 : decode zb_Mo_cast 132 = .ok (.iload 6, 2) := by decide +kernel
theorem d_Mo_cast_134 : decode zb_Mo_cast 134 = .ok (.iaload, 1) := by decide +kernel
theorem d_Mo_cast_135 : decode zb_Mo_cast 135 = .ok (.iload 7, 2) := by decide +kernel
theorem d_Mo_cast_137 : decode zb_Mo_cast 137 = .ok (.if_icmp .ge 10, 3) := by decide +kernel
theorem d_Mo_cast_140 : decode zb_Mo_cast 140 = .ok (.aload_n 0, 1) := by decide +kernel
theorem d_Mo_cast_141 : decode zb_Mo_cast 141 = .ok (.bipush 9, 2) := by decide +kernel
theorem d_Mo_cast_143 : decode zb_Mo_cast 143 = .ok (.invokevirtual 172, 3) := by decide +kernel
theorem d_Mo_cast_146 : decode zb_Mo_cast 146 = .ok (.ireturn, 1) := by decide +kernel
theorem d_Mo_cast_147 : decode zb_Mo_cast 147 = .ok (.aload_n 0, 1) := by decide +kernel
theorem d_Mo_cast_148 : decode zb_Mo_cast 148 = .ok (.invokevirtual 175, 3) := by decide +kernel
theorem d_Mo_cast_151 : decode zb_Mo_cast 151 = .ok (.aload_n 0, 1) := by decide +kernel
theorem d_Mo_cast_152 : decode zb_Mo_cast 152 = .ok (.iconst 1, 1) := by decide +kernel
theorem d_Mo_cast_153 : decode zb_Mo_cast 153 = .ok (.putfield 143, 3) := by decide +kernel
theorem d_Mo_cast_156 : decode zb_Mo_cast 156 = .ok (.aload_n 0, 1) := by decide +kernel
theorem d_Mo_cast_157 : decode zb_Mo_cast 157 = .ok (.dup, 1) := by decide +kernel
theorem d_Mo_cast_158 : decode zb_Mo_cast 158 = .ok (.getfield 218, 3) := by decide +kernel
theorem d_Mo_cast_161 : decode zb_Mo_cast 161 = .ok (.iconst 1, 1) := by decide +kernel
theorem d_Mo_cast_162 : decode zb_Mo_cast 162 = .ok (.iadd, 1) := by decide +kernel
theorem d_Mo_cast_163 : decode zb_Mo_cast 163 = .ok (.putfield 218, 3) := by decide +kernel
theorem d_Mo_cast_166 : decode zb_Mo_cast 166 = .ok (.aload_n 0, 1) := by decide +kernel
theorem d_Mo_cast_167 : decode zb_Mo_cast 167 = .ok (.bipush 10, 2) := by decide +kernel
theorem d_Mo_cast_169 : decode zb_Mo_cast 169 = .ok (.iload 4, 2) := by decide +kernel
theorem d_Mo_cast_171 : decode zb_Mo_cast 171 = .ok (.bipush 10, 2) := by decide +kernel
theorem d_Mo_cast_173 : decode zb_Mo_cast 173 = .ok (.iload_n 1, 1) := by decide +kernel
theorem d_Mo_cast_174 : decode zb_Mo_cast 174 = .ok (.iadd, 1) := by decide +kernel
theorem d_Mo_cast_175 : decode zb_Mo_cast 175 = .ok (.invokevirtual 102, 3) := by decide +kernel
theorem d_Mo_cast_178 : decode zb_Mo_cast 178 = .ok (.aload_n 0, 1) := by decide +kernel
theorem d_Mo_cast_179 : decode zb_Mo_cast 179 = .ok (.getfield 34, 3) := by decide +kernel
theorem d_Mo_cast_182 : decode zb_Mo_cast 182 = .ok (.iload 6, 2) := by decide +kernel
theorem d_Mo_cast_184 : decode zb_Mo_cast 184 = .ok (.dup2, 1) := by decide +kernel
theorem d_Mo_cast_185 : decode zb_Mo_cast 185 = .ok (.iaload, 1) := by decide +kernel
theorem d_Mo_cast_186 : decode zb_Mo_cast 186 = .ok (.iload 7, 2) := by decide +kernel
theorem d_Mo_cast_188 : decode zb_Mo_cast 188 = .ok (.isub, 1) := by decide +kernel
theorem d_Mo_cast_189 : decode zb_Mo_cast 189 = .ok (.iastore, 1) := by decide +kernel
theorem d_Mo_cast_190 : decode zb_Mo_cast 190 = .ok (.iload 7, 2) := by decide +kernel
theorem d_Mo_cast_192 : decode zb_Mo_cast 192 = .ok (.ifCond .le 26, 3) := by decide +kernel
theorem d_Mo_cast_195 : decode zb_Mo_cast 195 = .ok (.aload_n 0, 1) := by decide +kernel
theorem d_Mo_cast_196 : decode zb_Mo_cast 196 = .ok (.iconst 5, 1) := by decide +kernel
theorem d_Mo_cast_197 : decode zb_Mo_cast 197 = .ok (.iload 4, 2) := by decide +kernel
theorem d_Mo_cast_199 : decode zb_Mo_cast 199 = .ok (.bipush 10, 2) := by decide +kernel
theorem d_Mo_cast_201 : decode zb_Mo_cast 201 = .ok (.aload_n 0, 1) := by decide +kernel
theorem d_Mo_cast_202 : decode zb_Mo_cast 202 = .ok (.getfield 62, 3) := by decide +kernel
theorem d_Mo_cast_205 : decode zb_Mo_cast 205 = .ok (.iload 5, 2) := by decide +kernel
theorem d_Mo_cast_207 : decode zb_Mo_cast 207 = .ok (.bipush 23, 2) := by decide +kernel
theorem d_Mo_cast_209 : decode zb_Mo_cast 209 = .ok (.iadd, 1) := by decide +kernel
theorem d_Mo_cast_210 : decode zb_Mo_cast 210 = .ok (.iaload, 1) := by decide +kernel
theorem d_Mo_cast_211 : decode zb_Mo_cast 211 = .ok (.imul, 1) := by decide +kernel
theorem d_Mo_cast_212 : decode zb_Mo_cast 212 = .ok (.iload 7, 2) := by decide +kernel
theorem d_Mo_cast_214 : decode zb_Mo_cast 214 = .ok (.iadd, 1) := by decide +kernel
theorem d_Mo_cast_215 : decode zb_Mo_cast 215 = .ok (.invokevirtual 102, 3) := by decide +kernel
theorem d_Mo_cast_218 : decode zb_Mo_cast 218 = .ok (.aload_n 0, 1) := by decide +kernel
theorem d_Mo_cast_219 : decode zb_Mo_cast 219 = .ok (.getfield 62, 3) := by decide +kernel
theorem d_Mo_cast_222 : decode zb_Mo_cast 222 = .ok (.iload 5, 2) := by decide +kernel
theorem d_Mo_cast_224 : decode zb_Mo_cast 224 = .ok (.iaload, 1) := by decide +kernel
theorem d_Mo_cast_225 : decode zb_Mo_cast 225 = .ok (.istore 8, 2) := by decide +kernel
theorem d_Mo_cast_227 : decode zb_Mo_cast 227 = .ok (.aload_n 0, 1) := by decide +kernel
theorem d_Mo_cast_228 : decode zb_Mo_cast 228 = .ok (.iload 8, 2) := by decide +kernel
theorem d_Mo_cast_230 : decode zb_Mo_cast 230 = .ok (.iload 8, 2) := by decide +kernel
theorem d_Mo_cast_232 : decode zb_Mo_cast 232 = .ok (.iconst 2, 1) := by decide +kernel
theorem d_Mo_cast_233 : decode zb_Mo_cast 233 = .ok (.if_icmp .ge 7, 3) := by decide +kernel
theorem d_Mo_cast_236 : decode zb_Mo_cast 236 = .ok (.iload_n 2, 1) := by decide +kernel
theorem d_Mo_cast_237 : decode zb_Mo_cast 237 = .ok (.goto 10, 3) := by decide +kernel
theorem d_Mo_cast_240 : decode zb_Mo_cast 240 = .ok (.aload_n 0, 1) := by decide +kernel
theorem d_Mo_cast_241 : decode zb_Mo_cast 241 = .ok (.getfield 16, 3) := by decide +kernel
theorem d_Mo_cast_244 : decode zb_Mo_cast 244 = .ok (.iload 4, 2) := by decide +kernel
theorem d_Mo_cast_246 : decode zb_Mo_cast 246 = .ok (.iaload, 1) := by decide +kernel
theorem d_Mo_cast_247 : decode zb_Mo_cast 247 = .ok (.iload_n 3, 1) := by decide +kernel
theorem d_Mo_cast_248 : decode zb_Mo_cast 248 = .ok (.aload_n 0, 1) := by decide +kernel
theorem d_Mo_cast_249 : decode zb_Mo_cast 249 = .ok (.getfield 62, 3) := by decide +kernel
theorem d_Mo_cast_252 : decode zb_Mo_cast 252 = .ok (.iload 5, 2) := by decide +kernel
theorem d_Mo_cast_254 : decode zb_Mo_cast 254 = .ok (.iconst 1, 1) := by decide +kernel
theorem d_Mo_cast_255 : decode zb_Mo_cast 255 = .ok (.iadd, 1) := by decide +kernel
theorem d_Mo_cast_256 : decode zb_Mo_cast 256 = .ok (.iaload, 1) := by decide +kernel
theorem d_Mo_cast_257 : decode zb_Mo_cast 257 = .ok (.invokevirtual 263, 3) := by decide +kernel
theorem d_Mo_cast_260 : decode zb_Mo_cast 260 = .ok (.pop, 1) := by decide +kernel
theorem d_Mo_cast_261 : decode zb_Mo_cast 261 = .ok (.iconst 0, 1) := by decide +kernel
theorem d_Mo_cast_262 : decode zb_Mo_cast 262 = .ok (.istore 9, 2) := by decide +kernel
theorem d_Mo_cast_264 : decode zb_Mo_cast 264 = .ok (.iload 9, 2) := by decide +kernel
theorem d_Mo_cast_266 : decode zb_Mo_cast 266 = .ok (.aload_n 0, 1) := by decide +kernel
theorem d_Mo_cast_267 : decode zb_Mo_cast 267 = .ok (.getfield 62, 3) := by decide +kernel
theorem d_Mo_cast_270 : decode zb_Mo_cast 270 = .ok (.iload 5, 2) := by decide +kernel
theorem d_Mo_cast_272 : decode zb_Mo_cast 272 = .ok (.iconst 2, 1) := by decide +kernel
theorem d_Mo_cast_273 : decode zb_Mo_cast 273 = .ok (.iadd, 1) := by decide +kernel
theorem d_Mo_cast_274 : decode zb_Mo_cast 274 = .ok (.iaload, 1) := by decide +kernel
theorem d_Mo_cast_275 : decode zb_Mo_cast 275 = .ok (.if_icmp .ge 67, 3) := by decide +kernel
theorem d_Mo_cast_278 : decode zb_Mo_cast 278 = .ok (.iconst 0, 1) := by decide +kernel
theorem d_Mo_cast_279 : decode zb_Mo_cast 279 = .ok (.istore 10, 2) := by decide +kernel
theorem d_Mo_cast_281 : decode zb_Mo_cast 281 = .ok (.iload 10, 2) := by decide +kernel
theorem d_Mo_cast_283 : decode zb_Mo_cast 283 = .ok (.aload_n 0, 1) := by decide +kernel
theorem d_Mo_cast_284 : decode zb_Mo_cast 284 = .ok (.getfield 81, 3) := by decide +kernel
theorem d_Mo_cast_287 : decode zb_Mo_cast 287 = .ok (.if_icmp .ge 49, 3) := by decide +kernel
theorem d_Mo_cast_290 : decode zb_Mo_cast 290 = .ok (.aload_n 0, 1) := by decide +kernel
theorem d_Mo_cast_291 : decode zb_Mo_cast 291 = .ok (.getfield 71, 3) := by decide +kernel
theorem d_Mo_cast_294 : decode zb_Mo_cast 294 = .ok (.aload_n 0, 1) := by decide +kernel
theorem d_Mo_cast_295 : decode zb_Mo_cast 295 = .ok (.getfield 16, 3) := by decide +kernel
theorem d_Mo_cast_298 : decode zb_Mo_cast 298 = .ok (.aload_n 0, 1) := by decide +kernel
theorem d_Mo_cast_299 : decode zb_Mo_cast 299 = .ok (.iload 10, 2) := by decide +kernel
theorem d_Mo_cast_301 : decode zb_Mo_cast 301 = .ok (.invokevirtual 274, 3) := by decide +kernel
theorem d_Mo_cast_304 : decode zb_Mo_cast 304 = .ok (.iaload, 1) := by decide +kernel
theorem d_Mo_cast_305 : decode zb_Mo_cast 305 = .ok (.baload, 1) := by decide +kernel
theorem d_Mo_cast_306 : decode zb_Mo_cast 306 = .ok (.ifCond .eq 24, 3) := by decide +kernel
theorem d_Mo_cast_309 : decode zb_Mo_cast 309 = .ok (.aload_n 0, 1) := by decide +kernel
theorem d_Mo_cast_310 : decode zb_Mo_cast 310 = .ok (.iload 5, 2) := by decide +kernel
theorem d_Mo_cast_312 : decode zb_Mo_cast 312 = .ok (.iconst 3, 1) := by decide +kernel
theorem d_Mo_cast_313 : decode zb_Mo_cast 313 = .ok (.iadd, 1) := by decide +kernel
theorem d_Mo_cast_314 : decode zb_Mo_cast 314 = .ok (.iconst 5, 1) := by decide +kernel
theorem d_Mo_cast_315 : decode zb_Mo_cast 315 = .ok (.iload 9, 2) := by decide +kernel
theorem d_Mo_cast_317 : decode zb_Mo_cast 317 = .ok (.imul, 1) := by decide +kernel
theorem d_Mo_cast_318 : decode zb_Mo_cast 318 = .ok (.iadd, 1) := by decide +kernel
theorem d_Mo_cast_319 : decode zb_Mo_cast 319 = .ok (.aload_n 0, 1) := by decide +kernel
theorem d_Mo_cast_320 : decode zb_Mo_cast 320 = .ok (.iload 10, 2) := by decide +kernel
theorem d_Mo_cast_322 : decode zb_Mo_cast 322 = .ok (.invokevirtual 274, 3) := by decide +kernel
theorem d_Mo_cast_325 : decode zb_Mo_cast 325 = .ok (.iload 4, 2) := by decide +kernel
theorem d_Mo_cast_327 : decode zb_Mo_cast 327 = .ok (.invokevirtual 277, 3) := by decide +kernel
theorem d_Mo_cast_330 : decode zb_Mo_cast 330 = .ok (.iinc 10 1, 3) := by decide +kernel
theorem d_Mo_cast_333 : decode zb_Mo_cast 333 = .ok (.goto (-52), 3) := by decide +kernel
theorem d_Mo_cast_336 : decode zb_Mo_cast 336 = .ok (.iinc 9 1, 3) := by decide +kernel
theorem d_Mo_cast_339 : decode zb_Mo_cast 339 = .ok (.goto (-75), 3) := by decide +kernel
theorem d_Mo_cast_342 : decode zb_Mo_cast 342 = .ok (.iconst 0, 1) := by decide +kernel
theorem d_Mo_cast_343 : decode zb_Mo_cast 343 = .ok (.istore 9, 2) := by decide +kernel
theorem d_Mo_cast_345 : decode zb_Mo_cast 345 = .ok (.iconst 0, 1) := by decide +kernel
theorem d_Mo_cast_346 : decode zb_Mo_cast 346 = .ok (.istore 10, 2) := by decide +kernel
theorem d_Mo_cast_348 : decode zb_Mo_cast 348 = .ok (.iload 10, 2) := by decide +kernel
theorem d_Mo_cast_350 : decode zb_Mo_cast 350 = .ok (.aload_n 0, 1) := by decide +kernel
theorem d_Mo_cast_351 : decode zb_Mo_cast 351 = .ok (.getfield 81, 3) := by decide +kernel
theorem d_Mo_cast_354 : decode zb_Mo_cast 354 = .ok (.if_icmp .ge 34, 3) := by decide +kernel
theorem d_Mo_cast_357 : decode zb_Mo_cast 357 = .ok (.iload 9, 2) := by decide +kernel
theorem d_Mo_cast_359 : decode zb_Mo_cast 359 = .ok (.aload_n 0, 1) := by decide +kernel
theorem d_Mo_cast_360 : decode zb_Mo_cast 360 = .ok (.getfield 71, 3) := by decide +kernel
theorem d_Mo_cast_363 : decode zb_Mo_cast 363 = .ok (.aload_n 0, 1) := by decide +kernel
theorem d_Mo_cast_364 : decode zb_Mo_cast 364 = .ok (.getfield 16, 3) := by decide +kernel
theorem d_Mo_cast_367 : decode zb_Mo_cast 367 = .ok (.iload 10, 2) := by decide +kernel
theorem d_Mo_cast_369 : decode zb_Mo_cast 369 = .ok (.iaload, 1) := by decide +kernel
theorem d_Mo_cast_370 : decode zb_Mo_cast 370 = .ok (.baload, 1) := by decide +kernel
theorem d_Mo_cast_371 : decode zb_Mo_cast 371 = .ok (.ifCond .eq 7, 3) := by decide +kernel
theorem d_Mo_cast_374 : decode zb_Mo_cast 374 = .ok (.iconst 1, 1) := by decide +kernel
theorem d_Mo_cast_375 : decode zb_Mo_cast 375 = .ok (.goto 4, 3) := by decide +kernel
theorem d_Mo_cast_378 : decode zb_Mo_cast 378 = .ok (.iconst 0, 1) := by decide +kernel
theorem d_Mo_cast_379 : decode zb_Mo_cast 379 = .ok (.iadd, 1) := by decide +kernel
theorem d_Mo_cast_380 : decode zb_Mo_cast 380 = .ok (.istore 9, 2) := by decide +kernel
theorem d_Mo_cast_382 : decode zb_Mo_cast 382 = .ok (.iinc 10 1, 3) := by decide +kernel
theorem d_Mo_cast_385 : decode zb_Mo_cast 385 = .ok (.goto (-37), 3) := by decide +kernel
theorem d_Mo_cast_388 : decode zb_Mo_cast 388 = .ok (.iload 9, 2) := by decide +kernel
theorem d_Mo_cast_390 : decode zb_Mo_cast 390 = .ok (.ireturn, 1) := by decide +kernel
def k_Mo_cast_348 (l1 : Int32) (l2 : Int32) (l3 : Int32) : Nat → Int32 → Int32 → zsM → Option (Int32 × zsM)
  | 0, _, _, _ => none
  | fu + 1, l9, l10, x => (if l10 < (x.1 11) then (if zOut l10 8 then none else (if zOut ((((x.2 2)) l10.toNatClampNeg)) 100 then none else (if (((x.2 39)) ((((x.2 2)) l10.toNatClampNeg)).toNatClampNeg) = 0 then k_Mo_cast_348 l1 l2 l3 fu ((l9 + (0 : Int32))) ((l10 + (1 : Int32))) x else k_Mo_cast_348 l1 l2 l3 fu ((l9 + (1 : Int32))) ((l10 + (1 : Int32))) x))) else some (l9, x))
set_option maxRecDepth 20000 in
theorem w_Mo_cast_348 {X : zX} {c : zY} {q : Nat → Nat} {l1 : Int32} {l2 : Int32} {l3 : Int32} {out : Int32 × zsM} (hX : Ok X zr_Mo zb_Mo_cast 11 4 c) (hR : Rt X (some .int) (some (.int out.1)) (zwM c q out.2)) : ∀ (fu : Nat) (l9 : Int32) (l10 : Int32) (x : zsM), k_Mo_cast_348 l1 l2 l3 fu l9 l10 x = some out → Go X (zwM c q x) [(0, .ref ((q 0))), (9, .int l9), (10, .int l10)] 348 [] := by
  intro fu
  induction fu with
  | zero => intro l9 l10 x h; rw [k_Mo_cast_348] at h; cases h
  | succ fu ih =>
    intro l9 l10 x h
    rw [k_Mo_cast_348] at h
    refine g_iload (pc := 348) hX d_Mo_cast_348 2 rfl ?_
    refine g_aload_n (pc := 350) hX d_Mo_cast_350 rfl 0 rfl ?_
    refine gf_Mo_81 (pc := 351) (v := .int ((x.1 11))) hX 0 rfl rfl d_Mo_cast_351 ?_
    refine g_icmp_ge (pc := 354) (tgt := 388) hX d_Mo_cast_354 (by decide) h (fun c20 h => ?_) (fun c20 h => ?_)
    · refine g_iload (pc := 388) hX d_Mo_cast_388 1 rfl ?_
      obtain rfl := Option.some.inj h
      exact g_iret (pc := 390) hX hR d_Mo_cast_390
    · refine g_iload (pc := 357) hX d_Mo_cast_357 1 rfl ?_
      refine g_aload_n (pc := 359) hX d_Mo_cast_359 rfl 0 rfl ?_
      refine gf_Mo_71 (pc := 360) (v := .ref ((q 20))) hX 0 rfl rfl d_Mo_cast_360 ?_
      refine g_aload_n (pc := 363) hX d_Mo_cast_363 rfl 0 rfl ?_
      refine gf_Mo_16 (pc := 364) (v := .ref ((q 3))) hX 0 rfl rfl d_Mo_cast_364 ?_
      refine g_iload (pc := 367) hX d_Mo_cast_367 2 rfl ?_
      refine g_iald (pc := 369) (f := (x.2 2)) hX 3 rfl h d_Mo_cast_369 (fun h => ?_)
      refine g_zald (pc := 370) (f := (x.2 39)) hX 20 rfl h d_Mo_cast_370 (fun h => ?_)
      refine g_if_eq (pc := 371) (tgt := 378) hX d_Mo_cast_371 (by decide) h (fun c21 h => ?_) (fun c21 h => ?_)
      · refine g_iconst (pc := 378) hX d_Mo_cast_378 zc_0 ?_
        refine g_iadd (pc := 379) hX d_Mo_cast_379 ?_
        refine g_istore (pc := 380) (L' := [(9, .int ((l9 + (0 : Int32)))), (0, .ref ((q 0))), (10, .int l10)]) hX d_Mo_cast_380 rfl rfl ?_
        refine g_iinc (pc := 382) (q := 2) (L' := [(10, .int ((l10 + (1 : Int32)))), (9, .int ((l9 + (0 : Int32)))), (0, .ref ((q 0)))]) hX d_Mo_cast_382 rfl zc_1 rfl rfl ?_
        refine g_goto (pc := 385) (tgt := 348) hX d_Mo_cast_385 (by decide) ?_
        refine g_ls (L' := [(0, .ref ((q 0))), (9, .int ((l9 + (0 : Int32)))), (10, .int ((l10 + (1 : Int32))))]) [2, 1, 0] rfl ?_
        exact ih _ _ _ h
      · refine g_iconst (pc := 374) hX d_Mo_cast_374 zc_1 ?_
        refine g_goto (pc := 375) (tgt := 379) hX d_Mo_cast_375 (by decide) ?_
        refine g_iadd (pc := 379) hX d_Mo_cast_379 ?_
        refine g_istore (pc := 380) (L' := [(9, .int ((l9 + (1 : Int32)))), (0, .ref ((q 0))), (10, .int l10)]) hX d_Mo_cast_380 rfl rfl ?_
        refine g_iinc (pc := 382) (q := 2) (L' := [(10, .int ((l10 + (1 : Int32)))), (9, .int ((l9 + (1 : Int32)))), (0, .ref ((q 0)))]) hX d_Mo_cast_382 rfl zc_1 rfl rfl ?_
        refine g_goto (pc := 385) (tgt := 348) hX d_Mo_cast_385 (by decide) ?_
        refine g_ls (L' := [(0, .ref ((q 0))), (9, .int ((l9 + (1 : Int32)))), (10, .int ((l10 + (1 : Int32))))]) [2, 1, 0] rfl ?_
        exact ih _ _ _ h
def k_Mo_cast_281 (l1 : Int32) (l2 : Int32) (l3 : Int32) (kf_264 : Int32 → Int32 → Int32 → zsM → Option (Int32 × zsM)) : Nat → Int32 → Int32 → Int32 → Int32 → zsM → Option (Int32 × zsM)
  | 0, _, _, _, _, _ => none
  | fu + 1, l4, l5, l9, l10, x => (if l10 < (x.1 11) then (k_Mo_inTurn x l10).bind fun o23 => (if zOut o23 8 then none else (if zOut ((((x.2 2)) o23.toNatClampNeg)) 100 then none else (if (((x.2 39)) ((((x.2 2)) o23.toNatClampNeg)).toNatClampNeg) = 0 then k_Mo_cast_281 l1 l2 l3 kf_264 fu l4 l5 l9 ((l10 + (1 : Int32))) x else (k_Mo_inTurn x l10).bind fun o25 => (k_Mo_affects x (((l5 + (3 : Int32)) + ((5 : Int32) * l9))) o25 l4).bind fun o26 => k_Mo_cast_281 l1 l2 l3 kf_264 fu l4 l5 l9 ((l10 + (1 : Int32))) o26))) else kf_264 l4 l5 ((l9 + (1 : Int32))) x)
set_option maxRecDepth 20000 in
theorem w_Mo_cast_281 {X : zX} {c : zY} {q : Nat → Nat} {l1 : Int32} {l2 : Int32} {l3 : Int32} {out : Int32 × zsM} {kf_264 : Int32 → Int32 → Int32 → zsM → Option (Int32 × zsM)} (hX : Ok X zr_Mo zb_Mo_cast 11 4 c) (hR : Rt X (some .int) (some (.int out.1)) (zwM c q out.2)) (hk_264 : ∀ (l4 : Int32) (l5 : Int32) (l9 : Int32) (x : zsM), kf_264 l4 l5 l9 x = some out → Go X (zwM c q x) [(0, .ref ((q 0))), (4, .int l4), (5, .int l5), (9, .int l9)] 264 []) : ∀ (fu : Nat) (l4 : Int32) (l5 : Int32) (l9 : Int32) (l10 : Int32) (x : zsM), k_Mo_cast_281 l1 l2 l3 kf_264 fu l4 l5 l9 l10 x = some out → Go X (zwM c q x) [(0, .ref ((q 0))), (4, .int l4), (5, .int l5), (9, .int l9), (10, .int l10)] 281 [] := by
  intro fu
  induction fu with
  | zero => intro l4 l5 l9 l10 x h; rw [k_Mo_cast_281] at h; cases h
  | succ fu ih =>
    intro l4 l5 l9 l10 x h
    rw [k_Mo_cast_281] at h
    refine g_iload (pc := 281) hX d_Mo_cast_281 4 rfl ?_
    refine g_aload_n (pc := 283) hX d_Mo_cast_283 rfl 0 rfl ?_
    refine gf_Mo_81 (pc := 284) (v := .int ((x.1 11))) hX 0 rfl rfl d_Mo_cast_284 ?_
    refine g_icmp_ge (pc := 287) (tgt := 336) hX d_Mo_cast_287 (by decide) h (fun c22 h => ?_) (fun c22 h => ?_)
    · refine g_iinc (pc := 336) (q := 3) (L' := [(9, .int ((l9 + (1 : Int32)))), (0, .ref ((q 0))), (4, .int l4), (5, .int l5), (10, .int l10)]) hX d_Mo_cast_336 rfl zc_1 rfl rfl ?_
      refine g_goto (pc := 339) (tgt := 264) hX d_Mo_cast_339 (by decide) ?_
      refine g_ls (L' := [(0, .ref ((q 0))), (4, .int l4), (5, .int l5), (9, .int ((l9 + (1 : Int32))))]) [1, 2, 3, 0] rfl ?_
      exact hk_264 _ _ _ _ h
    · refine g_aload_n (pc := 290) hX d_Mo_cast_290 rfl 0 rfl ?_
      refine gf_Mo_71 (pc := 291) (v := .ref ((q 20))) hX 0 rfl rfl d_Mo_cast_291 ?_
      refine g_aload_n (pc := 294) hX d_Mo_cast_294 rfl 0 rfl ?_
      refine gf_Mo_16 (pc := 295) (v := .ref ((q 3))) hX 0 rfl rfl d_Mo_cast_295 ?_
      refine g_aload_n (pc := 298) hX d_Mo_cast_298 rfl 0 rfl ?_
      refine g_iload (pc := 299) hX d_Mo_cast_299 4 rfl ?_
      obtain ⟨o23, e23, h⟩ := zbind h
      refine g_cvI (pc := 301) (w1 := []) (w2 := []) (st := [.ref ((q 3)), .ref ((q 20))]) (w' := (zwM c q x)) hX zk_Mo_inTurn zs_Mo_inTurn zL_Mo_274 (c_Mo_inTurn c q x l10 e23) rfl rfl rfl rfl (zself _) (zself _).symm 0 10 rfl rfl rfl d_Mo_cast_301 ?_
      refine g_iald (pc := 304) (f := (x.2 2)) hX 3 rfl h d_Mo_cast_304 (fun h => ?_)
      refine g_zald (pc := 305) (f := (x.2 39)) hX 20 rfl h d_Mo_cast_305 (fun h => ?_)
      refine g_if_eq (pc := 306) (tgt := 330) hX d_Mo_cast_306 (by decide) h (fun c24 h => ?_) (fun c24 h => ?_)
      · refine g_iinc (pc := 330) (q := 4) (L' := [(10, .int ((l10 + (1 : Int32)))), (0, .ref ((q 0))), (4, .int l4), (5, .int l5), (9, .int l9)]) hX d_Mo_cast_330 rfl zc_1 rfl rfl ?_
        refine g_goto (pc := 333) (tgt := 281) hX d_Mo_cast_333 (by decide) ?_
        refine g_ls (L' := [(0, .ref ((q 0))), (4, .int l4), (5, .int l5), (9, .int l9), (10, .int ((l10 + (1 : Int32))))]) [1, 2, 3, 4, 0] rfl ?_
        exact ih _ _ _ _ _ h
      · refine g_aload_n (pc := 309) hX d_Mo_cast_309 rfl 0 rfl ?_
        refine g_iload (pc := 310) hX d_Mo_cast_310 2 rfl ?_
        refine g_iconst (pc := 312) hX d_Mo_cast_312 zc_3 ?_
        refine g_iadd (pc := 313) hX d_Mo_cast_313 ?_
        refine g_iconst (pc := 314) hX d_Mo_cast_314 zc_5 ?_
        refine g_iload (pc := 315) hX d_Mo_cast_315 3 rfl ?_
        refine g_imul (pc := 317) hX d_Mo_cast_317 ?_
        refine g_iadd (pc := 318) hX d_Mo_cast_318 ?_
        refine g_aload_n (pc := 319) hX d_Mo_cast_319 rfl 0 rfl ?_
        refine g_iload (pc := 320) hX d_Mo_cast_320 4 rfl ?_
        obtain ⟨o25, e25, h⟩ := zbind h
        refine g_cvI (pc := 322) (w1 := []) (w2 := []) (st := [.int (((l5 + (3 : Int32)) + ((5 : Int32) * l9))), .ref ((q 0))]) (w' := (zwM c q x)) hX zk_Mo_inTurn zs_Mo_inTurn zL_Mo_274 (c_Mo_inTurn c q x l10 e25) rfl rfl rfl rfl (zself _) (zself _).symm 0 10 rfl rfl rfl d_Mo_cast_322 ?_
        refine g_iload (pc := 325) hX d_Mo_cast_325 1 rfl ?_
        obtain ⟨o26, e26, h⟩ := zbind h
        refine g_cvV (pc := 327) (w1 := []) (w2 := []) (st := []) (w' := (zwM c q o26)) hX zk_Mo_affects zs_Mo_affects zL_Mo_277 (c_Mo_affects c q x (((l5 + (3 : Int32)) + ((5 : Int32) * l9))) o25 l4 e26) rfl rfl rfl rfl (zself _) (zself _).symm 0 10 rfl rfl rfl d_Mo_cast_327 ?_
        refine g_iinc (pc := 330) (q := 4) (L' := [(10, .int ((l10 + (1 : Int32)))), (0, .ref ((q 0))), (4, .int l4), (5, .int l5), (9, .int l9)]) hX d_Mo_cast_330 rfl zc_1 rfl rfl ?_
        refine g_goto (pc := 333) (tgt := 281) hX d_Mo_cast_333 (by decide) ?_
        refine g_ls (L' := [(0, .ref ((q 0))), (4, .int l4), (5, .int l5), (9, .int l9), (10, .int ((l10 + (1 : Int32))))]) [1, 2, 3, 4, 0] rfl ?_
        exact ih _ _ _ _ _ h
def k_Mo_cast_264 (l1 : Int32) (l2 : Int32) (l3 : Int32) : Nat → Int32 → Int32 → Int32 → zsM → Option (Int32 × zsM)
  | 0, _, _, _, _ => none
  | fu + 1, l4, l5, l9, x => (if zOut ((l5 + (2 : Int32))) 100 then none else (if l9 < (((x.2 33)) ((l5 + (2 : Int32))).toNatClampNeg) then k_Mo_cast_281 l1 l2 l3 (k_Mo_cast_264 l1 l2 l3 fu) zFu l4 l5 l9 ((0 : Int32)) x else k_Mo_cast_348 l1 l2 l3 zFu ((0 : Int32)) ((0 : Int32)) x))
set_option maxRecDepth 20000 in
theorem w_Mo_cast_264 {X : zX} {c : zY} {q : Nat → Nat} {l1 : Int32} {l2 : Int32} {l3 : Int32} {out : Int32 × zsM} (hX : Ok X zr_Mo zb_Mo_cast 11 4 c) (hR : Rt X (some .int) (some (.int out.1)) (zwM c q out.2)) : ∀ (fu : Nat) (l4 : Int32) (l5 : Int32) (l9 : Int32) (x : zsM), k_Mo_cast_264 l1 l2 l3 fu l4 l5 l9 x = some out → Go X (zwM c q x) [(0, .ref ((q 0))), (4, .int l4), (5, .int l5), (9, .int l9)] 264 [] := by
  intro fu
  induction fu with
  | zero => intro l4 l5 l9 x h; rw [k_Mo_cast_264] at h; cases h
  | succ fu ih =>
    intro l4 l5 l9 x h
    rw [k_Mo_cast_264] at h
    refine g_iload (pc := 264) hX d_Mo_cast_264 3 rfl ?_
    refine g_aload_n (pc := 266) hX d_Mo_cast_266 rfl 0 rfl ?_
    refine gf_Mo_62 (pc := 267) (v := .ref ((q 17))) hX 0 rfl rfl d_Mo_cast_267 ?_
    refine g_iload (pc := 270) hX d_Mo_cast_270 2 rfl ?_
    refine g_iconst (pc := 272) hX d_Mo_cast_272 zc_2 ?_
    refine g_iadd (pc := 273) hX d_Mo_cast_273 ?_
    refine g_iald (pc := 274) (f := (x.2 33)) hX 17 rfl h d_Mo_cast_274 (fun h => ?_)
    refine g_icmp_ge (pc := 275) (tgt := 342) hX d_Mo_cast_275 (by decide) h (fun c19 h => ?_) (fun c19 h => ?_)
    · refine g_iconst (pc := 342) hX d_Mo_cast_342 zc_0 ?_
      refine g_istore (pc := 343) (L' := [(9, .int ((0 : Int32))), (0, .ref ((q 0))), (4, .int l4), (5, .int l5)]) hX d_Mo_cast_343 rfl rfl ?_
      refine g_iconst (pc := 345) hX d_Mo_cast_345 zc_0 ?_
      refine g_istore (pc := 346) (L' := [(10, .int ((0 : Int32))), (9, .int ((0 : Int32))), (0, .ref ((q 0))), (4, .int l4), (5, .int l5)]) hX d_Mo_cast_346 rfl rfl ?_
      refine g_ls (L' := [(0, .ref ((q 0))), (9, .int ((0 : Int32))), (10, .int ((0 : Int32)))]) [2, 1, 0] rfl ?_
      exact w_Mo_cast_348 hX hR _ _ _ _ h
    · refine g_iconst (pc := 278) hX d_Mo_cast_278 zc_0 ?_
      refine g_istore (pc := 279) (L' := [(10, .int ((0 : Int32))), (0, .ref ((q 0))), (4, .int l4), (5, .int l5), (9, .int l9)]) hX d_Mo_cast_279 rfl rfl ?_
      refine g_ls (L' := [(0, .ref ((q 0))), (4, .int l4), (5, .int l5), (9, .int l9), (10, .int ((0 : Int32)))]) [1, 2, 3, 4, 0] rfl ?_
      exact w_Mo_cast_281 hX hR ih _ _ _ _ _ _ h
def k_Mo_cast_247 (l1 : Int32) (l2 : Int32) (l3 : Int32) (l4 : Int32) (l5 : Int32) (s0 : Int32) (s1 : Int32) (x : zsM) : Option (Int32 × zsM) := (if zOut ((l5 + (1 : Int32))) 100 then none else (k_Mo_findArea x s1 s0 l3 ((((x.2 33)) ((l5 + (1 : Int32))).toNatClampNeg))).bind fun o18 => k_Mo_cast_264 l1 l2 l3 zFu l4 l5 ((0 : Int32)) o18.2)
set_option maxRecDepth 20000 in
theorem w_Mo_cast_247 {X : zX} {c : zY} {q : Nat → Nat} {l1 : Int32} {l2 : Int32} {l3 : Int32} {out : Int32 × zsM} (hX : Ok X zr_Mo zb_Mo_cast 11 4 c) (hR : Rt X (some .int) (some (.int out.1)) (zwM c q out.2)) : ∀ (l4 : Int32) (l5 : Int32) (s0 : Int32) (s1 : Int32) (x : zsM), k_Mo_cast_247 l1 l2 l3 l4 l5 s0 s1 x = some out → Go X (zwM c q x) [(0, .ref ((q 0))), (3, .int l3), (4, .int l4), (5, .int l5)] 247 [.int s0, .int s1, .ref ((q 0))] := by
  intro l4 l5 s0 s1 x h
  rw [k_Mo_cast_247] at h
  refine g_iload_n (pc := 247) hX d_Mo_cast_247 rfl 1 rfl ?_
  refine g_aload_n (pc := 248) hX d_Mo_cast_248 rfl 0 rfl ?_
  refine gf_Mo_62 (pc := 249) (v := .ref ((q 17))) hX 0 rfl rfl d_Mo_cast_249 ?_
  refine g_iload (pc := 252) hX d_Mo_cast_252 3 rfl ?_
  refine g_iconst (pc := 254) hX d_Mo_cast_254 zc_1 ?_
  refine g_iadd (pc := 255) hX d_Mo_cast_255 ?_
  refine g_iald (pc := 256) (f := (x.2 33)) hX 17 rfl h d_Mo_cast_256 (fun h => ?_)
  obtain ⟨o18, e18, h⟩ := zbind h
  refine g_cvI (pc := 257) (w1 := []) (w2 := []) (st := []) (w' := (zwM c q o18.2)) hX zk_Mo_findArea zs_Mo_findArea zL_Mo_263 (c_Mo_findArea c q x s1 s0 l3 ((((x.2 33)) ((l5 + (1 : Int32))).toNatClampNeg)) e18) rfl rfl rfl rfl (zself _) (zself _).symm 0 10 rfl rfl rfl d_Mo_cast_257 ?_
  refine g_pop (pc := 260) hX d_Mo_cast_260 rfl ?_
  refine g_iconst (pc := 261) hX d_Mo_cast_261 zc_0 ?_
  refine g_istore (pc := 262) (L' := [(9, .int ((0 : Int32))), (0, .ref ((q 0))), (3, .int l3), (4, .int l4), (5, .int l5)]) hX d_Mo_cast_262 rfl rfl ?_
  refine g_ls (L' := [(0, .ref ((q 0))), (4, .int l4), (5, .int l5), (9, .int ((0 : Int32)))]) [1, 3, 4, 0] rfl ?_
  exact w_Mo_cast_264 hX hR _ _ _ _ _ h
def k_Mo_cast_218 (l1 : Int32) (l2 : Int32) (l3 : Int32) (l4 : Int32) (l5 : Int32) (x : zsM) : Option (Int32 × zsM) := (if zOut l5 100 then none else (if (((x.2 33)) l5.toNatClampNeg) < (2 : Int32) then k_Mo_cast_247 l1 l2 l3 l4 l5 l2 ((((x.2 33)) l5.toNatClampNeg)) x else (if zOut l4 8 then none else k_Mo_cast_247 l1 l2 l3 l4 l5 ((((x.2 2)) l4.toNatClampNeg)) ((((x.2 33)) l5.toNatClampNeg)) x)))
set_option maxRecDepth 20000 in
theorem w_Mo_cast_218 {X : zX} {c : zY} {q : Nat → Nat} {l1 : Int32} {l2 : Int32} {l3 : Int32} {out : Int32 × zsM} (hX : Ok X zr_Mo zb_Mo_cast 11 4 c) (hR : Rt X (some .int) (some (.int out.1)) (zwM c q out.2)) : ∀ (l4 : Int32) (l5 : Int32) (x : zsM), k_Mo_cast_218 l1 l2 l3 l4 l5 x = some out → Go X (zwM c q x) [(0, .ref ((q 0))), (2, .int l2), (3, .int l3), (4, .int l4), (5, .int l5)] 218 [] := by
  intro l4 l5 x h
  rw [k_Mo_cast_218] at h
  refine g_aload_n (pc := 218) hX d_Mo_cast_218 rfl 0 rfl ?_
  refine gf_Mo_62 (pc := 219) (v := .ref ((q 17))) hX 0 rfl rfl d_Mo_cast_219 ?_
  refine g_iload (pc := 222) hX d_Mo_cast_222 4 rfl ?_
  refine g_iald (pc := 224) (f := (x.2 33)) hX 17 rfl h d_Mo_cast_224 (fun h => ?_)
  refine g_istore (pc := 225) (L' := [(8, .int ((((x.2 33)) l5.toNatClampNeg))), (0, .ref ((q 0))), (2, .int l2), (3, .int l3), (4, .int l4), (5, .int l5)]) hX d_Mo_cast_225 rfl rfl ?_
  refine g_aload_n (pc := 227) hX d_Mo_cast_227 rfl 1 rfl ?_
  refine g_iload (pc := 228) hX d_Mo_cast_228 0 rfl ?_
  refine g_iload (pc := 230) hX d_Mo_cast_230 0 rfl ?_
  refine g_iconst (pc := 232) hX d_Mo_cast_232 zc_2 ?_
  refine g_icmp_ge (pc := 233) (tgt := 240) hX d_Mo_cast_233 (by decide) h (fun c17 h => ?_) (fun c17 h => ?_)
  · refine g_aload_n (pc := 240) hX d_Mo_cast_240 rfl 1 rfl ?_
    refine gf_Mo_16 (pc := 241) (v := .ref ((q 3))) hX 0 rfl rfl d_Mo_cast_241 ?_
    refine g_iload (pc := 244) hX d_Mo_cast_244 4 rfl ?_
    refine g_iald (pc := 246) (f := (x.2 2)) hX 3 rfl h d_Mo_cast_246 (fun h => ?_)
    refine g_ls (L' := [(0, .ref ((q 0))), (3, .int l3), (4, .int l4), (5, .int l5)]) [1, 3, 4, 5] rfl ?_
    exact w_Mo_cast_247 hX hR _ _ _ _ _ h
  · refine g_iload_n (pc := 236) hX d_Mo_cast_236 rfl 2 rfl ?_
    refine g_goto (pc := 237) (tgt := 247) hX d_Mo_cast_237 (by decide) ?_
    refine g_ls (L' := [(0, .ref ((q 0))), (3, .int l3), (4, .int l4), (5, .int l5)]) [1, 3, 4, 5] rfl ?_
    exact w_Mo_cast_247 hX hR _ _ _ _ _ h
def k_Mo_cast (x : zsM) (l1 : Int32) (l2 : Int32) (l3 : Int32) : Option (Int32 × zsM) := (k_Mo_isBetween l1 ((0 : Int32)) ((3 : Int32))).bind fun o1 => (if o1 = 0 then some ((-1 : Int32), x) else (k_Mo_isCell l2).bind fun o3 => (if o3 = 0 then some ((-1 : Int32), x) else (k_Mo_isBetween l3 ((0 : Int32)) ((3 : Int32))).bind fun o5 => (if o5 = 0 then some ((-1 : Int32), x) else (if (x.1 19) = 0 then (k_Mo_refuses x ((1 : Int32))).bind fun o32 => some (o32.1, o32.2) else (k_Mo_current x).bind fun o8 => (k_Mo_canAct x o8).bind fun o9 => (if o9 = 0 then (k_Mo_refuses x ((3 : Int32))).bind fun o31 => some (o31.1, o31.2) else (if (x.1 24) = (1 : Int32) then (k_Mo_refuses x ((4 : Int32))).bind fun o30 => some (o30.1, o30.2) else (if (((x.1 38) >>> (l1 &&& 31)) &&& (1 : Int32)) = 0 then (k_Mo_refuses x ((8 : Int32))).bind fun o29 => some (o29.1, o29.2) else (if zOut ((((25 : Int32) * l1) + (23 : Int32))) 100 then none else (if zOut ((((25 : Int32) * l1) + (24 : Int32))) 100 then none else (if zOut ((((3 : Int32) * o8) + (((x.2 33)) ((((25 : Int32) * l1) + (23 : Int32))).toNatClampNeg))) 24 then none else (if (((x.2 8)) ((((3 : Int32) * o8) + (((x.2 33)) ((((25 : Int32) * l1) + (23 : Int32))).toNatClampNeg))).toNatClampNeg) < (((x.2 33)) ((((25 : Int32) * l1) + (24 : Int32))).toNatClampNeg) then (k_Mo_refuses x ((9 : Int32))).bind fun o28 => some (o28.1, o28.2) else (k_Mo_remembers x).bind fun o14 => (k_Mo_notes (((upd ((upd o14.1 24 ((1 : Int32)))) 28 (((o14.1 28) + (1 : Int32)))), o14.2)) ((10 : Int32)) o8 (((10 : Int32) + l1))).bind fun o15 => (if zOut ((((3 : Int32) * o8) + (((x.2 33)) ((((25 : Int32) * l1) + (23 : Int32))).toNatClampNeg))) 24 then none else (if zOut ((((3 : Int32) * o8) + (((x.2 33)) ((((25 : Int32) * l1) + (23 : Int32))).toNatClampNeg))) 24 then none else (if 0 < (((x.2 33)) ((((25 : Int32) * l1) + (24 : Int32))).toNatClampNeg) then (if zOut ((((25 : Int32) * l1) + (23 : Int32))) 100 then none else (k_Mo_notes ((o15.1, (va_up o15.2 8 (upd ((o15.2 8)) ((((3 : Int32) * o8) + (((x.2 33)) ((((25 : Int32) * l1) + (23 : Int32))).toNatClampNeg))).toNatClampNeg (((((o15.2 8)) ((((3 : Int32) * o8) + (((x.2 33)) ((((25 : Int32) * l1) + (23 : Int32))).toNatClampNeg))).toNatClampNeg) - (((x.2 33)) ((((25 : Int32) * l1) + (24 : Int32))).toNatClampNeg))))))) ((5 : Int32)) o8 ((((10 : Int32) * (((o15.2 33)) ((((25 : Int32) * l1) + (23 : Int32))).toNatClampNeg)) + (((x.2 33)) ((((25 : Int32) * l1) + (24 : Int32))).toNatClampNeg)))).bind fun o27 => k_Mo_cast_218 l1 l2 l3 o8 (((25 : Int32) * l1)) o27) else k_Mo_cast_218 l1 l2 l3 o8 (((25 : Int32) * l1)) ((o15.1, (va_up o15.2 8 (upd ((o15.2 8)) ((((3 : Int32) * o8) + (((x.2 33)) ((((25 : Int32) * l1) + (23 : Int32))).toNatClampNeg))).toNatClampNeg (((((o15.2 8)) ((((3 : Int32) * o8) + (((x.2 33)) ((((25 : Int32) * l1) + (23 : Int32))).toNatClampNeg))).toNatClampNeg) - (((x.2 33)) ((((25 : Int32) * l1) + (24 : Int32))).toNatClampNeg)))))))))))))))))))))
set_option maxRecDepth 20000 in
theorem c_Mo_cast (c : zY) (q : Nat → Nat) (x : zsM) (l1 : Int32) (l2 : Int32) (l3 : Int32) {out : Int32 × zsM} (h : k_Mo_cast x l1 l2 l3 = some out) : KM zy_Mo_cast zb_Mo_cast 11 (some .int) 4 c [.ref ((q 0)), .int l1, .int l2, .int l3] (zwM c q x) (zwM c q out.2) (some (.int out.1)) := zK_of zp_Mo rfl (Nat.le_of_ble_eq_true rfl) (zq_Mo c q _ _) (fun X hX hR => by
  show Go X (zwM c q x) [(0, .ref ((q 0))), (1, .int l1), (2, .int l2), (3, .int l3)] 0 []
  rw [k_Mo_cast] at h
  refine g_iload_n (pc := 0) hX d_Mo_cast_0 rfl 1 rfl ?_
  refine g_iconst (pc := 1) hX d_Mo_cast_1 zc_0 ?_
  refine g_iconst (pc := 2) hX d_Mo_cast_2 zc_3 ?_
  obtain ⟨o1, e1, h⟩ := zbind h
  refine g_csI (pc := 3) (st := []) hX zk_Mo_isBetween zL_Mo_84 (c_Mo_isBetween c l1 ((0 : Int32)) ((3 : Int32)) e1) rfl rfl rfl rfl rfl d_Mo_cast_3 ?_
  refine g_if_eq (pc := 6) (tgt := 25) hX d_Mo_cast_6 (by decide) h (fun c2 h => ?_) (fun c2 h => ?_)
  · refine g_iconst (pc := 25) hX d_Mo_cast_25 zc_m1 ?_
    obtain rfl := Option.some.inj h
    exact g_iret (pc := 26) hX hR d_Mo_cast_26
  · refine g_iload_n (pc := 9) hX d_Mo_cast_9 rfl 2 rfl ?_
    obtain ⟨o3, e3, h⟩ := zbind h
    refine g_csI (pc := 10) (st := []) hX zk_Mo_isCell zL_Mo_166 (c_Mo_isCell c l2 e3) rfl rfl rfl rfl rfl d_Mo_cast_10 ?_
    refine g_if_eq (pc := 13) (tgt := 25) hX d_Mo_cast_13 (by decide) h (fun c4 h => ?_) (fun c4 h => ?_)
    · refine g_iconst (pc := 25) hX d_Mo_cast_25 zc_m1 ?_
      obtain rfl := Option.some.inj h
      exact g_iret (pc := 26) hX hR d_Mo_cast_26
    · refine g_iload_n (pc := 16) hX d_Mo_cast_16 rfl 3 rfl ?_
      refine g_iconst (pc := 17) hX d_Mo_cast_17 zc_0 ?_
      refine g_iconst (pc := 18) hX d_Mo_cast_18 zc_3 ?_
      obtain ⟨o5, e5, h⟩ := zbind h
      refine g_csI (pc := 19) (st := []) hX zk_Mo_isBetween zL_Mo_84 (c_Mo_isBetween c l3 ((0 : Int32)) ((3 : Int32)) e5) rfl rfl rfl rfl rfl d_Mo_cast_19 ?_
      refine g_if_ne (pc := 22) (tgt := 27) hX d_Mo_cast_22 (by decide) h (fun c6 h => ?_) (fun c6 h => ?_)
      · refine g_aload_n (pc := 27) hX d_Mo_cast_27 rfl 0 rfl ?_
        refine gf_Mo_181 (pc := 28) (v := .int ((x.1 19))) hX 0 rfl rfl d_Mo_cast_28 ?_
        refine g_if_ne (pc := 31) (tgt := 40) hX d_Mo_cast_31 (by decide) h (fun c7 h => ?_) (fun c7 h => ?_)
        · refine g_aload_n (pc := 40) hX d_Mo_cast_40 rfl 0 rfl ?_
          obtain ⟨o8, e8, h⟩ := zbind h
          refine g_cvI (pc := 41) (w1 := []) (w2 := []) (st := []) (w' := (zwM c q x)) hX zk_Mo_current zs_Mo_current zL_Mo_136 (c_Mo_current c q x e8) rfl rfl rfl rfl (zself _) (zself _).symm 0 10 rfl rfl rfl d_Mo_cast_41 ?_
          refine g_istore (pc := 44) (L' := [(4, .int o8), (0, .ref ((q 0))), (1, .int l1), (2, .int l2), (3, .int l3)]) hX d_Mo_cast_44 rfl rfl ?_
          refine g_aload_n (pc := 46) hX d_Mo_cast_46 rfl 1 rfl ?_
          refine g_iload (pc := 47) hX d_Mo_cast_47 0 rfl ?_
          obtain ⟨o9, e9, h⟩ := zbind h
          refine g_cvI (pc := 49) (w1 := []) (w2 := []) (st := []) (w' := (zwM c q x)) hX zk_Mo_canAct zs_Mo_canAct zL_Mo_197 (c_Mo_canAct c q x o8 e9) rfl rfl rfl rfl (zself _) (zself _).symm 0 10 rfl rfl rfl d_Mo_cast_49 ?_
          refine g_if_ne (pc := 52) (tgt := 61) hX d_Mo_cast_52 (by decide) h (fun c10 h => ?_) (fun c10 h => ?_)
          · refine g_aload_n (pc := 61) hX d_Mo_cast_61 rfl 1 rfl ?_
            refine gf_Mo_143 (pc := 62) (v := .int ((x.1 24))) hX 0 rfl rfl d_Mo_cast_62 ?_
            refine g_iconst (pc := 65) hX d_Mo_cast_65 zc_1 ?_
            refine g_icmp_ne (pc := 66) (tgt := 75) hX d_Mo_cast_66 (by decide) h (fun c11 h => ?_) (fun c11 h => ?_)
            · refine g_aload_n (pc := 75) hX d_Mo_cast_75 rfl 1 rfl ?_
              refine gf_Mo_253 (pc := 76) (v := .int ((x.1 38))) hX 0 rfl rfl d_Mo_cast_76 ?_
              refine g_iload_n (pc := 79) hX d_Mo_cast_79 rfl 2 rfl ?_
              refine g_ishr (pc := 80) hX d_Mo_cast_80 ?_
              refine g_iconst (pc := 81) hX d_Mo_cast_81 zc_1 ?_
              refine g_iand (pc := 82) hX d_Mo_cast_82 ?_
              refine g_if_ne (pc := 83) (tgt := 93) hX d_Mo_cast_83 (by decide) h (fun c12 h => ?_) (fun c12 h => ?_)
              · refine g_bipush (pc := 93) hX d_Mo_cast_93 ze_25 ?_
                refine g_iload_n (pc := 95) hX d_Mo_cast_95 rfl 2 rfl ?_
                refine g_imul (pc := 96) hX d_Mo_cast_96 ?_
                refine g_istore (pc := 97) (L' := [(5, .int (((25 : Int32) * l1))), (4, .int o8), (0, .ref ((q 0))), (1, .int l1), (2, .int l2), (3, .int l3)]) hX d_Mo_cast_97 rfl rfl ?_
                refine g_iconst (pc := 99) hX d_Mo_cast_99 zc_3 ?_
                refine g_iload (pc := 100) hX d_Mo_cast_100 1 rfl ?_
                refine g_imul (pc := 102) hX d_Mo_cast_102 ?_
                refine g_aload_n (pc := 103) hX d_Mo_cast_103 rfl 2 rfl ?_
                refine gf_Mo_62 (pc := 104) (v := .ref ((q 17))) hX 0 rfl rfl d_Mo_cast_104 ?_
                refine g_iload (pc := 107) hX d_Mo_cast_107 0 rfl ?_
                refine g_bipush (pc := 109) hX d_Mo_cast_109 ze_23 ?_
                refine g_iadd (pc := 111) hX d_Mo_cast_111 ?_
                refine g_iald (pc := 112) (f := (x.2 33)) hX 17 rfl h d_Mo_cast_112 (fun h => ?_)
                refine g_iadd (pc := 113) hX d_Mo_cast_113 ?_
                refine g_istore (pc := 114) (L' := [(6, .int ((((3 : Int32) * o8) + (((x.2 33)) ((((25 : Int32) * l1) + (23 : Int32))).toNatClampNeg)))), (5, .int (((25 : Int32) * l1))), (4, .int o8), (0, .ref ((q 0))), (1, .int l1), (2, .int l2), (3, .int l3)]) hX d_Mo_cast_114 rfl rfl ?_
                refine g_aload_n (pc := 116) hX d_Mo_cast_116 rfl 3 rfl ?_
                refine gf_Mo_62 (pc := 117) (v := .ref ((q 17))) hX 0 rfl rfl d_Mo_cast_117 ?_
                refine g_iload (pc := 120) hX d_Mo_cast_120 1 rfl ?_
                refine g_bipush (pc := 122) hX d_Mo_cast_122 ze_24 ?_
                refine g_iadd (pc := 124) hX d_Mo_cast_124 ?_
                refine g_iald (pc := 125) (f := (x.2 33)) hX 17 rfl h d_Mo_cast_125 (fun h => ?_)
                refine g_istore (pc := 126) (L' := [(7, .int ((((x.2 33)) ((((25 : Int32) * l1) + (24 : Int32))).toNatClampNeg))), (6, .int ((((3 : Int32) * o8) + (((x.2 33)) ((((25 : Int32) * l1) + (23 : Int32))).toNatClampNeg)))), (5, .int (((25 : Int32) * l1))), (4, .int o8), (0, .ref ((q 0))), (1, .int l1), (2, .int l2), (3, .int l3)]) hX d_Mo_cast_126 rfl rfl ?_
                refine g_aload_n (pc := 128) hX d_Mo_cast_128 rfl 4 rfl ?_
                refine gf_Mo_34 (pc := 129) (v := .ref ((q 9))) hX 0 rfl rfl d_Mo_cast_129 ?_
                refine g_iload (pc := 132) hX d_Mo_cast_132 1 rfl ?_
                refine g_iald (pc := 134) (f := (x.2 8)) hX 9 rfl h d_Mo_cast_134 (fun h => ?_)
                refine g_iload (pc := 135) hX d_Mo_cast_135 0 rfl ?_
                refine g_icmp_ge (pc := 137) (tgt := 147) hX d_Mo_cast_137 (by decide) h (fun c13 h => ?_) (fun c13 h => ?_)
                · refine g_aload_n (pc := 147) hX d_Mo_cast_147 rfl 4 rfl ?_
                  obtain ⟨o14, e14, h⟩ := zbind h
                  refine g_cvV (pc := 148) (w1 := []) (w2 := []) (st := []) (w' := (zwM c q o14)) hX zk_Mo_remembers zs_Mo_remembers zL_Mo_175 (c_Mo_remembers c q x e14) rfl rfl rfl rfl (zself _) (zself _).symm 0 10 rfl rfl rfl d_Mo_cast_148 ?_
                  refine g_aload_n (pc := 151) hX d_Mo_cast_151 rfl 4 rfl ?_
                  refine g_iconst (pc := 152) hX d_Mo_cast_152 zc_1 ?_
                  refine pf_Mo_143 (pc := 153) (w2 := (zwM c q (((upd o14.1 24 ((1 : Int32))), o14.2)))) hX 0 rfl rfl (su_Mo_0_24 c q o14 ((1 : Int32))) d_Mo_cast_153 ?_
                  refine g_aload_n (pc := 156) hX d_Mo_cast_156 rfl 4 rfl ?_
                  refine g_dup (pc := 157) hX d_Mo_cast_157 rfl ?_
                  refine gf_Mo_218 (pc := 158) (v := .int ((o14.1 28))) hX 0 rfl rfl d_Mo_cast_158 ?_
                  refine g_iconst (pc := 161) hX d_Mo_cast_161 zc_1 ?_
                  refine g_iadd (pc := 162) hX d_Mo_cast_162 ?_
                  refine pf_Mo_218 (pc := 163) (w2 := (zwM c q (((upd ((upd o14.1 24 ((1 : Int32)))) 28 (((o14.1 28) + (1 : Int32)))), o14.2)))) hX 0 rfl rfl (su_Mo_0_28 c q (((upd o14.1 24 ((1 : Int32))), o14.2)) (((o14.1 28) + (1 : Int32)))) d_Mo_cast_163 ?_
                  refine g_aload_n (pc := 166) hX d_Mo_cast_166 rfl 4 rfl ?_
                  refine g_bipush (pc := 167) hX d_Mo_cast_167 ze_10 ?_
                  refine g_iload (pc := 169) hX d_Mo_cast_169 3 rfl ?_
                  refine g_bipush (pc := 171) hX d_Mo_cast_171 ze_10 ?_
                  refine g_iload_n (pc := 173) hX d_Mo_cast_173 rfl 5 rfl ?_
                  refine g_iadd (pc := 174) hX d_Mo_cast_174 ?_
                  obtain ⟨o15, e15, h⟩ := zbind h
                  refine g_cvV (pc := 175) (w1 := []) (w2 := []) (st := []) (w' := (zwM c q o15)) hX zk_Mo_notes zs_Mo_notes zL_Mo_102 (c_Mo_notes c q (((upd ((upd o14.1 24 ((1 : Int32)))) 28 (((o14.1 28) + (1 : Int32)))), o14.2)) ((10 : Int32)) o8 (((10 : Int32) + l1)) e15) rfl rfl rfl rfl (zself _) (zself _).symm 0 10 rfl rfl rfl d_Mo_cast_175 ?_
                  refine g_aload_n (pc := 178) hX d_Mo_cast_178 rfl 4 rfl ?_
                  refine gf_Mo_34 (pc := 179) (v := .ref ((q 9))) hX 0 rfl rfl d_Mo_cast_179 ?_
                  refine g_iload (pc := 182) hX d_Mo_cast_182 1 rfl ?_
                  refine g_dup2 (pc := 184) hX d_Mo_cast_184 rfl rfl ?_
                  refine g_iald (pc := 185) (f := (o15.2 8)) hX 9 rfl h d_Mo_cast_185 (fun h => ?_)
                  refine g_iload (pc := 186) hX d_Mo_cast_186 0 rfl ?_
                  refine g_isub (pc := 188) hX d_Mo_cast_188 ?_
                  refine g_iast (pc := 189) (f := (o15.2 8)) (w' := (zwM c q ((o15.1, (va_up o15.2 8 (upd ((o15.2 8)) ((((3 : Int32) * o8) + (((x.2 33)) ((((25 : Int32) * l1) + (23 : Int32))).toNatClampNeg))).toNatClampNeg (((((o15.2 8)) ((((3 : Int32) * o8) + (((x.2 33)) ((((25 : Int32) * l1) + (23 : Int32))).toNatClampNeg))).toNatClampNeg) - (((x.2 33)) ((((25 : Int32) * l1) + (24 : Int32))).toNatClampNeg))))))))) hX 9 rfl h (sa_Mo_9 c q o15 (upd ((o15.2 8)) ((((3 : Int32) * o8) + (((x.2 33)) ((((25 : Int32) * l1) + (23 : Int32))).toNatClampNeg))).toNatClampNeg (((((o15.2 8)) ((((3 : Int32) * o8) + (((x.2 33)) ((((25 : Int32) * l1) + (23 : Int32))).toNatClampNeg))).toNatClampNeg) - (((x.2 33)) ((((25 : Int32) * l1) + (24 : Int32))).toNatClampNeg))))) d_Mo_cast_189 (fun h => ?_)
                  refine g_iload (pc := 190) hX d_Mo_cast_190 0 rfl ?_
                  refine g_if_le (pc := 192) (tgt := 218) hX d_Mo_cast_192 (by decide) h (fun c16 h => ?_) (fun c16 h => ?_)
                  · refine g_ls (L' := [(0, .ref ((q 0))), (2, .int l2), (3, .int l3), (4, .int o8), (5, .int (((25 : Int32) * l1)))]) [4, 6, 7, 3, 2] rfl ?_
                    exact w_Mo_cast_218 hX hR _ _ _ h
                  · refine g_aload_n (pc := 195) hX d_Mo_cast_195 rfl 4 rfl ?_
                    refine g_iconst (pc := 196) hX d_Mo_cast_196 zc_5 ?_
                    refine g_iload (pc := 197) hX d_Mo_cast_197 3 rfl ?_
                    refine g_bipush (pc := 199) hX d_Mo_cast_199 ze_10 ?_
                    refine g_aload_n (pc := 201) hX d_Mo_cast_201 rfl 4 rfl ?_
                    refine gf_Mo_62 (pc := 202) (v := .ref ((q 17))) hX 0 rfl rfl d_Mo_cast_202 ?_
                    refine g_iload (pc := 205) hX d_Mo_cast_205 2 rfl ?_
                    refine g_bipush (pc := 207) hX d_Mo_cast_207 ze_23 ?_
                    refine g_iadd (pc := 209) hX d_Mo_cast_209 ?_
                    refine g_iald (pc := 210) (f := (o15.2 33)) hX 17 rfl h d_Mo_cast_210 (fun h => ?_)
                    refine g_imul (pc := 211) hX d_Mo_cast_211 ?_
                    refine g_iload (pc := 212) hX d_Mo_cast_212 0 rfl ?_
                    refine g_iadd (pc := 214) hX d_Mo_cast_214 ?_
                    obtain ⟨o27, e27, h⟩ := zbind h
                    refine g_cvV (pc := 215) (w1 := []) (w2 := []) (st := []) (w' := (zwM c q o27)) hX zk_Mo_notes zs_Mo_notes zL_Mo_102 (c_Mo_notes c q ((o15.1, (va_up o15.2 8 (upd ((o15.2 8)) ((((3 : Int32) * o8) + (((x.2 33)) ((((25 : Int32) * l1) + (23 : Int32))).toNatClampNeg))).toNatClampNeg (((((o15.2 8)) ((((3 : Int32) * o8) + (((x.2 33)) ((((25 : Int32) * l1) + (23 : Int32))).toNatClampNeg))).toNatClampNeg) - (((x.2 33)) ((((25 : Int32) * l1) + (24 : Int32))).toNatClampNeg))))))) ((5 : Int32)) o8 ((((10 : Int32) * (((o15.2 33)) ((((25 : Int32) * l1) + (23 : Int32))).toNatClampNeg)) + (((x.2 33)) ((((25 : Int32) * l1) + (24 : Int32))).toNatClampNeg))) e27) rfl rfl rfl rfl (zself _) (zself _).symm 0 10 rfl rfl rfl d_Mo_cast_215 ?_
                    refine g_ls (L' := [(0, .ref ((q 0))), (2, .int l2), (3, .int l3), (4, .int o8), (5, .int (((25 : Int32) * l1)))]) [4, 6, 7, 3, 2] rfl ?_
                    exact w_Mo_cast_218 hX hR _ _ _ h
                · refine g_aload_n (pc := 140) hX d_Mo_cast_140 rfl 4 rfl ?_
                  refine g_bipush (pc := 141) hX d_Mo_cast_141 ze_9 ?_
                  obtain ⟨o28, e28, h⟩ := zbind h
                  refine g_cvI (pc := 143) (w1 := []) (w2 := []) (st := []) (w' := (zwM c q o28.2)) hX zk_Mo_refuses zs_Mo_refuses zL_Mo_172 (c_Mo_refuses c q x ((9 : Int32)) e28) rfl rfl rfl rfl (zself _) (zself _).symm 0 10 rfl rfl rfl d_Mo_cast_143 ?_
                  obtain rfl := Option.some.inj h
                  exact g_iret (pc := 146) hX hR d_Mo_cast_146
              · refine g_aload_n (pc := 86) hX d_Mo_cast_86 rfl 1 rfl ?_
                refine g_bipush (pc := 87) hX d_Mo_cast_87 ze_8 ?_
                obtain ⟨o29, e29, h⟩ := zbind h
                refine g_cvI (pc := 89) (w1 := []) (w2 := []) (st := []) (w' := (zwM c q o29.2)) hX zk_Mo_refuses zs_Mo_refuses zL_Mo_172 (c_Mo_refuses c q x ((8 : Int32)) e29) rfl rfl rfl rfl (zself _) (zself _).symm 0 10 rfl rfl rfl d_Mo_cast_89 ?_
                obtain rfl := Option.some.inj h
                exact g_iret (pc := 92) hX hR d_Mo_cast_92
            · refine g_aload_n (pc := 69) hX d_Mo_cast_69 rfl 1 rfl ?_
              refine g_iconst (pc := 70) hX d_Mo_cast_70 zc_4 ?_
              obtain ⟨o30, e30, h⟩ := zbind h
              refine g_cvI (pc := 71) (w1 := []) (w2 := []) (st := []) (w' := (zwM c q o30.2)) hX zk_Mo_refuses zs_Mo_refuses zL_Mo_172 (c_Mo_refuses c q x ((4 : Int32)) e30) rfl rfl rfl rfl (zself _) (zself _).symm 0 10 rfl rfl rfl d_Mo_cast_71 ?_
              obtain rfl := Option.some.inj h
              exact g_iret (pc := 74) hX hR d_Mo_cast_74
          · refine g_aload_n (pc := 55) hX d_Mo_cast_55 rfl 1 rfl ?_
            refine g_iconst (pc := 56) hX d_Mo_cast_56 zc_3 ?_
            obtain ⟨o31, e31, h⟩ := zbind h
            refine g_cvI (pc := 57) (w1 := []) (w2 := []) (st := []) (w' := (zwM c q o31.2)) hX zk_Mo_refuses zs_Mo_refuses zL_Mo_172 (c_Mo_refuses c q x ((3 : Int32)) e31) rfl rfl rfl rfl (zself _) (zself _).symm 0 10 rfl rfl rfl d_Mo_cast_57 ?_
            obtain rfl := Option.some.inj h
            exact g_iret (pc := 60) hX hR d_Mo_cast_60
        · refine g_aload_n (pc := 34) hX d_Mo_cast_34 rfl 0 rfl ?_
          refine g_iconst (pc := 35) hX d_Mo_cast_35 zc_1 ?_
          obtain ⟨o32, e32, h⟩ := zbind h
          refine g_cvI (pc := 36) (w1 := []) (w2 := []) (st := []) (w' := (zwM c q o32.2)) hX zk_Mo_refuses zs_Mo_refuses zL_Mo_172 (c_Mo_refuses c q x ((1 : Int32)) e32) rfl rfl rfl rfl (zself _) (zself _).symm 0 10 rfl rfl rfl d_Mo_cast_36 ?_
          obtain rfl := Option.some.inj h
          exact g_iret (pc := 39) hX hR d_Mo_cast_39
      · refine g_iconst (pc := 25) hX d_Mo_cast_25 zc_m1 ?_
        obtain rfl := Option.some.inj h
        exact g_iret (pc := 26) hX hR d_Mo_cast_26)
