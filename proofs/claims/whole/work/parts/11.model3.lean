theorem d_Mo_refills_0 : decode zb_Mo_refills 0 = .ok (.iconst 3, 1) := by decide +kernel
theorem d_Mo_refills_1 : decode zb_Mo_refills 1 = .ok (.iload_n 1, 1) := by decide +kernel
theorem d_Mo_refills_2 : decode zb_Mo_refills 2 = .ok (.imul, 1) := by decide +kernel
theorem d_Mo_refills_3 : decode zb_Mo_refills 3 = .ok (.iload_n 2, 1) := by decide +kernel
theorem d_Mo_refills_4 : decode zb_Mo_refills 4 = .ok (.iadd, 1) := by decide +kernel
theorem d_Mo_refills_5 : decode zb_Mo_refills 5 = .ok (.istore_n 3, 1) := by decide +kernel
theorem d_Mo_refills_6 : decode zb_Mo_refills 6 = .ok (.aload_n 0, 1) := by decide +kernel
theorem d_Mo_refills_7 : decode zb_Mo_refills 7 = .ok (.getfield 37, 3) := by decide +kernel
theorem d_Mo_refills_10 : decode zb_Mo_refills 10 = .ok (.iload_n 3, 1) := by decide +kernel
theorem d_Mo_refills_11 : decode zb_Mo_refills 11 = .ok (.iaload, 1) := by decide +kernel
theorem d_Mo_refills_12 : decode zb_Mo_refills 12 = .ok (.aload_n 0, 1) := by decide +kernel
theorem d_Mo_refills_13 : decode zb_Mo_refills 13 = .ok (.getfield 34, 3) := by decide +kernel
theorem d_Mo_refills_16 : decode zb_Mo_refills 16 = .ok (.iload_n 3, 1) := by decide +kernel
theorem d_Mo_refills_17 : decode zb_Mo_refills 17 = .ok (.iaload, 1) := by decide +kernel
theorem d_Mo_refills_18 : decode zb_Mo_refills 18 = .ok (.isub, 1) := by decide +kernel
theorem d_Mo_refills_19 : decode zb_Mo_refills 19 = .ok (.istore 4, 2) := by decide +kernel
theorem d_Mo_refills_21 : decode zb_Mo_refills 21 = .ok (.aload_n 0, 1) := by decide +kernel
theorem d_Mo_refills_22 : decode zb_Mo_refills 22 = .ok (.getfield 34, 3) := by decide +kernel
theorem d_Mo_refills_25 : decode zb_Mo_refills 25 = .ok (.iload_n 3, 1) := by decide +kernel
theorem d_Mo_refills_26 : decode zb_Mo_refills 26 = .ok (.aload_n 0, 1) := by decide +kernel
theorem d_Mo_refills_27 : decode zb_Mo_refills 27 = .ok (.getfield 37, 3) := by decide +kernel
theorem d_Mo_refills_30 : decode zb_Mo_refills 30 = .ok (.iload_n 3, 1) := by decide +kernel
theorem d_Mo_refills_31 : decode zb_Mo_refills 31 = .ok (.iaload, 1) := by decide +kernel
theorem d_Mo_refills_32 : decode zb_Mo_refills 32 = .ok (.iastore, 1) := by decide +kernel
theorem d_Mo_refills_33 : decode zb_Mo_refills 33 = .ok (.iload 4, 2) := by decide +kernel
theorem d_Mo_refills_35 : decode zb_Mo_refills 35 = .ok (.ifCond .le 17, 3) := by decide +kernel
theorem d_Mo_refills_38 : decode zb_Mo_refills 38 = .ok (.aload_n 0, 1) := by decide +kernel
theorem d_Mo_refills_39 : decode zb_Mo_refills 39 = .ok (.bipush 6, 2) := by decide +kernel
theorem d_Mo_refills_41 : decode zb_Mo_refills 41 = .ok (.iload_n 1, 1) := by decide +kernel
theorem d_Mo_refills_42 : decode zb_Mo_refills 42 = .ok (.bipush 10, 2) := by decide +kernel
theorem d_Mo_refills_44 : decode zb_Mo_refills 44 = .ok (.iload_n 2, 1) := by decide +kernel
theorem d_Mo_refills_45 : decode zb_Mo_refills 45 = .ok (.imul, 1) := by decide +kernel
theorem d_Mo_refills_46 : decode zb_Mo_refills 46 = .ok (.iload 4, 2) := by decide +kernel
theorem d_Mo_refills_48 : decode zb_Mo_refills 48 = .ok (.iadd, 1) := by decide +kernel
theorem d_Mo_refills_49 : decode zb_Mo_refills 49 = .ok (.invokevirtual 102, 3) := by decide +kernel
theorem d_Mo_refills_52 : decode zb_Mo_refills 52 = .ok (.return_, 1) := by decide +kernel
def k_Mo_refills (x : zsM) (l1 : Int32) (l2 : Int32) : Option (zsM) := (if zOut ((((3 : Int32) * l1) + l2)) 24 then none else (if zOut ((((3 : Int32) * l1) + l2)) 24 then none else (if zOut ((((3 : Int32) * l1) + l2)) 24 then none else (if zOut ((((3 : Int32) * l1) + l2)) 24 then none else (if 0 < ((((x.2 9)) ((((3 : Int32) * l1) + l2)).toNatClampNeg) - (((x.2 8)) ((((3 : Int32) * l1) + l2)).toNatClampNeg)) then (k_Mo_notes ((x.1, (va_up x.2 8 (upd ((x.2 8)) ((((3 : Int32) * l1) + l2)).toNatClampNeg ((((x.2 9)) ((((3 : Int32) * l1) + l2)).toNatClampNeg)))))) ((6 : Int32)) l1 ((((10 : Int32) * l2) + ((((x.2 9)) ((((3 : Int32) * l1) + l2)).toNatClampNeg) - (((x.2 8)) ((((3 : Int32) * l1) + l2)).toNatClampNeg))))).bind fun o2 => some o2 else some ((x.1, (va_up x.2 8 (upd ((x.2 8)) ((((3 : Int32) * l1) + l2)).toNatClampNeg ((((x.2 9)) ((((3 : Int32) * l1) + l2)).toNatClampNeg)))))))))))
set_option maxRecDepth 20000 in
theorem c_Mo_refills (c : zY) (q : Nat → Nat) (x : zsM) (l1 : Int32) (l2 : Int32) {out : zsM} (h : k_Mo_refills x l1 l2 = some out) : KM zy_Mo_refills zb_Mo_refills 5 none 1 c [.ref ((q 0)), .int l1, .int l2] (zwM c q x) (zwM c q out) none := zK_of zp_Mo rfl (Nat.le_of_ble_eq_true rfl) (zq_Mo c q _ _) (fun X hX hR => by
  show Go X (zwM c q x) [(0, .ref ((q 0))), (1, .int l1), (2, .int l2)] 0 []
  rw [k_Mo_refills] at h
  refine g_iconst (pc := 0) hX d_Mo_refills_0 zc_3 ?_
  refine g_iload_n (pc := 1) hX d_Mo_refills_1 rfl 1 rfl ?_
  refine g_imul (pc := 2) hX d_Mo_refills_2 ?_
  refine g_iload_n (pc := 3) hX d_Mo_refills_3 rfl 2 rfl ?_
  refine g_iadd (pc := 4) hX d_Mo_refills_4 ?_
  refine g_istore_n (pc := 5) (L' := [(3, .int ((((3 : Int32) * l1) + l2))), (0, .ref ((q 0))), (1, .int l1), (2, .int l2)]) hX d_Mo_refills_5 rfl rfl rfl ?_
  refine g_aload_n (pc := 6) hX d_Mo_refills_6 rfl 1 rfl ?_
  refine gf_Mo_37 (pc := 7) (v := .ref ((q 10))) hX 0 rfl rfl d_Mo_refills_7 ?_
  refine g_iload_n (pc := 10) hX d_Mo_refills_10 rfl 0 rfl ?_
  refine g_iald (pc := 11) (f := (x.2 9)) hX 10 rfl h d_Mo_refills_11 (fun h => ?_)
  refine g_aload_n (pc := 12) hX d_Mo_refills_12 rfl 1 rfl ?_
  refine gf_Mo_34 (pc := 13) (v := .ref ((q 9))) hX 0 rfl rfl d_Mo_refills_13 ?_
  refine g_iload_n (pc := 16) hX d_Mo_refills_16 rfl 0 rfl ?_
  refine g_iald (pc := 17) (f := (x.2 8)) hX 9 rfl h d_Mo_refills_17 (fun h => ?_)
  refine g_isub (pc := 18) hX d_Mo_refills_18 ?_
  refine g_istore (pc := 19) (L' := [(4, .int (((((x.2 9)) ((((3 : Int32) * l1) + l2)).toNatClampNeg) - (((x.2 8)) ((((3 : Int32) * l1) + l2)).toNatClampNeg)))), (3, .int ((((3 : Int32) * l1) + l2))), (0, .ref ((q 0))), (1, .int l1), (2, .int l2)]) hX d_Mo_refills_19 rfl rfl ?_
  refine g_aload_n (pc := 21) hX d_Mo_refills_21 rfl 2 rfl ?_
  refine gf_Mo_34 (pc := 22) (v := .ref ((q 9))) hX 0 rfl rfl d_Mo_refills_22 ?_
  refine g_iload_n (pc := 25) hX d_Mo_refills_25 rfl 1 rfl ?_
  refine g_aload_n (pc := 26) hX d_Mo_refills_26 rfl 2 rfl ?_
  refine gf_Mo_37 (pc := 27) (v := .ref ((q 10))) hX 0 rfl rfl d_Mo_refills_27 ?_
  refine g_iload_n (pc := 30) hX d_Mo_refills_30 rfl 1 rfl ?_
  refine g_iald (pc := 31) (f := (x.2 9)) hX 10 rfl h d_Mo_refills_31 (fun h => ?_)
  refine g_iast (pc := 32) (f := (x.2 8)) (w' := (zwM c q ((x.1, (va_up x.2 8 (upd ((x.2 8)) ((((3 : Int32) * l1) + l2)).toNatClampNeg ((((x.2 9)) ((((3 : Int32) * l1) + l2)).toNatClampNeg)))))))) hX 9 rfl h (sa_Mo_9 c q x (upd ((x.2 8)) ((((3 : Int32) * l1) + l2)).toNatClampNeg ((((x.2 9)) ((((3 : Int32) * l1) + l2)).toNatClampNeg)))) d_Mo_refills_32 (fun h => ?_)
  refine g_iload (pc := 33) hX d_Mo_refills_33 0 rfl ?_
  refine g_if_le (pc := 35) (tgt := 52) hX d_Mo_refills_35 (by decide) h (fun c1 h => ?_) (fun c1 h => ?_)
  · obtain rfl := Option.some.inj h
    exact g_vret (pc := 52) hX hR d_Mo_refills_52
  · refine g_aload_n (pc := 38) hX d_Mo_refills_38 rfl 2 rfl ?_
    refine g_bipush (pc := 39) hX d_Mo_refills_39 ze_6 ?_
    refine g_iload_n (pc := 41) hX d_Mo_refills_41 rfl 3 rfl ?_
    refine g_bipush (pc := 42) hX d_Mo_refills_42 ze_10 ?_
    refine g_iload_n (pc := 44) hX d_Mo_refills_44 rfl 4 rfl ?_
    refine g_imul (pc := 45) hX d_Mo_refills_45 ?_
    refine g_iload (pc := 46) hX d_Mo_refills_46 0 rfl ?_
    refine g_iadd (pc := 48) hX d_Mo_refills_48 ?_
    obtain ⟨o2, e2, h⟩ := zbind h
    refine g_cvV (pc := 49) (w1 := []) (w2 := []) (st := []) (w' := (zwM c q o2)) hX zk_Mo_notes zs_Mo_notes zL_Mo_102 (c_Mo_notes c q ((x.1, (va_up x.2 8 (upd ((x.2 8)) ((((3 : Int32) * l1) + l2)).toNatClampNeg ((((x.2 9)) ((((3 : Int32) * l1) + l2)).toNatClampNeg)))))) ((6 : Int32)) l1 ((((10 : Int32) * l2) + ((((x.2 9)) ((((3 : Int32) * l1) + l2)).toNatClampNeg) - (((x.2 8)) ((((3 : Int32) * l1) + l2)).toNatClampNeg)))) e2) rfl rfl rfl rfl (zself _) (zself _).symm 0 10 rfl rfl rfl d_Mo_refills_49 ?_
    obtain rfl := Option.some.inj h
    exact g_vret (pc := 52) hX hR d_Mo_refills_52)
theorem d_Mo_rest_0 : decode zb_Mo_rest 0 = .ok (.iload_n 1, 1) := by decide +kernel
theorem d_Mo_rest_1 : decode zb_Mo_rest 1 = .ok (.iconst 0, 1) := by decide +kernel
theorem d_Mo_rest_2 : decode zb_Mo_rest 2 = .ok (.iconst 1, 1) := by decide +kernel
theorem d_Mo_rest_3 : decode zb_Mo_rest 3 = .ok (.invokestatic 84, 3) := by decide +kernel
theorem d_Mo_rest_6 : decode zb_Mo_rest 6 = .ok (.ifCond .ne 5, 3) := by decide +kernel
theorem d_Mo_rest_9 : decode zb_Mo_rest 9 = .ok (.iconst (-1), 1) := by decide +kernel
theorem d_Mo_rest_10 : decode zb_Mo_rest 10 = .ok (.ireturn, 1) := by decide +kernel
theorem d_Mo_rest_11 : decode zb_Mo_rest 11 = .ok (.aload_n 0, 1) := by decide +kernel
theorem d_Mo_rest_12 : decode zb_Mo_rest 12 = .ok (.getfield 181, 3) := by decide +kernel
theorem d_Mo_rest_15 : decode zb_Mo_rest 15 = .ok (.iconst 1, 1) := by decide +kernel
theorem d_Mo_rest_16 : decode zb_Mo_rest 16 = .ok (.if_icmp .ne 9, 3) := by decide +kernel
theorem d_Mo_rest_19 : decode zb_Mo_rest 19 = .ok (.aload_n 0, 1) := by decide +kernel
theorem d_Mo_rest_20 : decode zb_Mo_rest 20 = .ok (.iconst 2, 1) := by decide +kernel
theorem d_Mo_rest_21 : decode zb_Mo_rest 21 = .ok (.invokevirtual 172, 3) := by decide +kernel
theorem d_Mo_rest_24 : decode zb_Mo_rest 24 = .ok (.ireturn, 1) := by decide +kernel
theorem d_Mo_rest_25 : decode zb_Mo_rest 25 = .ok (.aload_n 0, 1) := by decide +kernel
theorem d_Mo_rest_26 : decode zb_Mo_rest 26 = .ok (.getfield 81, 3) := by decide +kernel
theorem d_Mo_rest_29 : decode zb_Mo_rest 29 = .ok (.ifCond .ne 10, 3) := by decide +kernel
theorem d_Mo_rest_32 : decode zb_Mo_rest 32 = .ok (.aload_n 0, 1) := by decide +kernel
theorem d_Mo_rest_33 : decode zb_Mo_rest 33 = .ok (.bipush 10, 2) := by decide +kernel
theorem d_Mo_rest_35 : decode zb_Mo_rest 35 = .ok (.invokevirtual 172, 3) := by decide +kernel
theorem d_Mo_rest_38 : decode zb_Mo_rest 38 = .ok (.ireturn, 1) := by decide +kernel
theorem d_Mo_rest_39 : decode zb_Mo_rest 39 = .ok (.aload_n 0, 1) := by decide +kernel
theorem d_Mo_rest_40 : decode zb_Mo_rest 40 = .ok (.invokevirtual 175, 3) := by decide +kernel
theorem d_Mo_rest_43 : decode zb_Mo_rest 43 = .ok (.aload_n 0, 1) := by decide +kernel
theorem d_Mo_rest_44 : decode zb_Mo_rest 44 = .ok (.dup, 1) := by decide +kernel
theorem d_Mo_rest_45 : decode zb_Mo_rest 45 = .ok (.getfield 280, 3) := by decide +kernel
theorem d_Mo_rest_48 : decode zb_Mo_rest 48 = .ok (.iconst 1, 1) := by decide +kernel
theorem d_Mo_rest_49 : decode zb_Mo_rest 49 = .ok (.iadd, 1) := by decide +kernel
theorem d_Mo_rest_50 : decode zb_Mo_rest 50 = .ok (.putfield 280, 3) := by decide +kernel
theorem d_Mo_rest_53 : decode zb_Mo_rest 53 = .ok (.iconst 0, 1) := by decide +kernel
theorem d_Mo_rest_54 : decode zb_Mo_rest 54 = .ok (.istore_n 2, 1) := by decide +kernel
theorem d_Mo_rest_55 : decode zb_Mo_rest 55 = .ok (.iconst 0, 1) := by decide +kernel
theorem d_Mo_rest_56 : decode zb_Mo_rest 56 = .ok (.istore_n 3, 1) := by decide +kernel
theorem d_Mo_rest_57 : decode zb_Mo_rest 57 = .ok (.iload_n 3, 1) := by decide +kernel
theorem d_Mo_rest_58 : decode zb_Mo_rest 58 = .ok (.aload_n 0, 1) := by decide +kernel
theorem d_Mo_rest_59 : decode zb_Mo_rest 59 = .ok (.getfield 81, 3) := by decide +kernel
theorem d_Mo_rest_62 : decode zb_Mo_rest 62 = .ok (.if_icmp .ge 88, 3) := by decide +kernel
theorem d_Mo_rest_65 : decode zb_Mo_rest 65 = .ok (.iload_n 1, 1) := by decide +kernel
theorem d_Mo_rest_66 : decode zb_Mo_rest 66 = .ok (.iconst 1, 1) := by decide +kernel
theorem d_Mo_rest_67 : decode zb_Mo_rest 67 = .ok (.if_icmp .ne 20, 3) := by decide +kernel
theorem d_Mo_rest_70 : decode zb_Mo_rest 70 = .ok (.iload_n 2, 1) := by decide +kernel
theorem d_Mo_rest_71 : decode zb_Mo_rest 71 = .ok (.aload_n 0, 1) := by decide +kernel
theorem d_Mo_rest_72 : decode zb_Mo_rest 72 = .ok (.iload_n 3, 1) := by decide +kernel
theorem d_Mo_rest_73 : decode zb_Mo_rest 73 = .ok (.aload_n 0, 1) := by decide +kernel
theorem d_Mo_rest_74 : decode zb_Mo_rest 74 = .ok (.getfield 19, 3) := by decide +kernel
theorem d_Mo_rest_77 : decode zb_Mo_rest 77 = .ok (.iload_n 3, 1) := by decide +kernel
theorem d_Mo_rest_78 : decode zb_Mo_rest 78 = .ok (.iaload, 1) := by decide +kernel
theorem d_Mo_rest_79 : decode zb_Mo_rest 79 = .ok (.invokevirtual 267, 3) := by decide +kernel
theorem d_Mo_rest_82 : decode zb_Mo_rest 82 = .ok (.iadd, 1) := by decide +kernel
theorem d_Mo_rest_83 : decode zb_Mo_rest 83 = .ok (.istore_n 2, 1) := by decide +kernel
theorem d_Mo_rest_84 : decode zb_Mo_rest 84 = .ok (.goto 29, 3) := by decide +kernel
theorem d_Mo_rest_87 : decode zb_Mo_rest 87 = .ok (.aload_n 0, 1) := by decide +kernel
theorem d_Mo_rest_88 : decode zb_Mo_rest 88 = .ok (.iload_n 3, 1) := by decide +kernel
theorem d_Mo_rest_89 : decode zb_Mo_rest 89 = .ok (.invokevirtual 110, 3) := by decide +kernel
theorem d_Mo_rest_92 : decode zb_Mo_rest 92 = .ok (.ifCond .ne 21, 3) := by decide +kernel
theorem d_Mo_rest_95 : decode zb_Mo_rest 95 = .ok (.iload_n 2, 1) := by decide +kernel
theorem d_Mo_rest_96 : decode zb_Mo_rest 96 = .ok (.aload_n 0, 1) := by decide +kernel
theorem d_Mo_rest_97 : decode zb_Mo_rest 97 = .ok (.iload_n 3, 1) := by decide +kernel
theorem d_Mo_rest_98 : decode zb_Mo_rest 98 = .ok (.aload_n 0, 1) := by decide +kernel
theorem d_Mo_rest_99 : decode zb_Mo_rest 99 = .ok (.getfield 19, 3) := by decide +kernel
theorem d_Mo_rest_102 : decode zb_Mo_rest 102 = .ok (.iload_n 3, 1) := by decide +kernel
theorem d_Mo_rest_103 : decode zb_Mo_rest 103 = .ok (.iaload, 1) := by decide +kernel
theorem d_Mo_rest_104 : decode zb_Mo_rest 104 = .ok (.iconst 1, 1) := by decide +kernel
theorem d_Mo_rest_105 : decode zb_Mo_rest 105 = .ok (.iadd, 1) := by decide +kernel
theorem d_Mo_rest_106 : decode zb_Mo_rest 106 = .ok (.iconst 2, 1) := by decide +kernel
theorem d_Mo_rest_107 : decode zb_Mo_rest 107 = .ok (.idiv, 1) := by decide +kernel
theorem d_Mo_rest_108 : decode zb_Mo_rest 108 = .ok (.invokevirtual 267, 3) := by decide +kernel
theorem d_Mo_rest_111 : decode zb_Mo_rest 111 = .ok (.iadd, 1) := by decide +kernel
theorem d_Mo_rest_112 : decode zb_Mo_rest 112 = .ok (.istore_n 2, 1) := by decide +kernel
theorem d_Mo_rest_113 : decode zb_Mo_rest 113 = .ok (.iconst 0, 1) := by decide +kernel
theorem d_Mo_rest_114 : decode zb_Mo_rest 114 = .ok (.istore 4, 2) := by decide +kernel
theorem d_Mo_rest_116 : decode zb_Mo_rest 116 = .ok (.iload 4, 2) := by decide +kernel
theorem d_Mo_rest_118 : decode zb_Mo_rest 118 = .ok (.iload_n 1, 1) := by decide +kernel
theorem d_Mo_rest_119 : decode zb_Mo_rest 119 = .ok (.iconst 1, 1) := by decide +kernel
theorem d_Mo_rest_120 : decode zb_Mo_rest 120 = .ok (.if_icmp .ne 7, 3) := by decide +kernel
theorem d_Mo_rest_123 : decode zb_Mo_rest 123 = .ok (.iconst 3, 1) := by decide +kernel
theorem d_Mo_rest_124 : decode zb_Mo_rest 124 = .ok (.goto 4, 3) := by decide +kernel
theorem d_Mo_rest_127 : decode zb_Mo_rest 127 = .ok (.iconst 1, 1) := by decide +kernel
theorem d_Mo_rest_128 : decode zb_Mo_rest 128 = .ok (.if_icmp .ge 16, 3) := by decide +kernel
theorem d_Mo_rest_131 : decode zb_Mo_rest 131 = .ok (.aload_n 0, 1) := by decide +kernel
theorem d_Mo_rest_132 : decode zb_Mo_rest 132 = .ok (.iload_n 3, 1) := by decide +kernel
theorem d_Mo_rest_133 : decode zb_Mo_rest 133 = .ok (.iload 4, 2) := by decide +kernel
theorem d_Mo_rest_135 : decode zb_Mo_rest 135 = .ok (.invokevirtual 283, 3) := by decide +kernel
theorem d_Mo_rest_138 : decode zb_Mo_rest 138 = .ok (.iinc 4 1, 3) := by decide +kernel
theorem d_Mo_rest_141 : decode zb_Mo_rest 141 = .ok (.goto (-25), 3) := by decide +kernel
theorem d_Mo_rest_144 : decode zb_Mo_rest 144 = .ok (.iinc 3 1, 3) := by decide +kernel
theorem d_Mo_rest_147 : decode zb_Mo_rest 147 = .ok (.goto (-90), 3) := by decide +kernel
theorem d_Mo_rest_150 : decode zb_Mo_rest 150 = .ok (.iconst 0, 1) := by decide +kernel
theorem d_Mo_rest_151 : decode zb_Mo_rest 151 = .ok (.istore_n 3, 1) := by decide +kernel
theorem d_Mo_rest_152 : decode zb_Mo_rest 152 = .ok (.iload_n 3, 1) := by decide +kernel
theorem d_Mo_rest_153 : decode zb_Mo_rest 153 = .ok (.aload_n 0, 1) := by decide +kernel
theorem d_Mo_rest_154 : decode zb_Mo_rest 154 = .ok (.getfield 95, 3) := by decide +kernel
theorem d_Mo_rest_157 : decode zb_Mo_rest 157 = .ok (.if_icmp .ge 30, 3) := by decide +kernel
theorem d_Mo_rest_160 : decode zb_Mo_rest 160 = .ok (.iload_n 1, 1) := by decide +kernel
theorem d_Mo_rest_161 : decode zb_Mo_rest 161 = .ok (.iconst 1, 1) := by decide +kernel
theorem d_Mo_rest_162 : decode zb_Mo_rest 162 = .ok (.if_icmp .ne 19, 3) := by decide +kernel
theorem d_Mo_rest_165 : decode zb_Mo_rest 165 = .ok (.aload_n 0, 1) := by decide +kernel
theorem d_Mo_rest_166 : decode zb_Mo_rest 166 = .ok (.iload_n 3, 1) := by decide +kernel
theorem d_Mo_rest_167 : decode zb_Mo_rest 167 = .ok (.iconst 4, 1) := by decide +kernel
theorem d_Mo_rest_168 : decode zb_Mo_rest 168 = .ok (.invokevirtual 98, 3) := by decide +kernel
theorem d_Mo_rest_171 : decode zb_Mo_rest 171 = .ok (.iconst 3, 1) := by decide +kernel
theorem d_Mo_rest_172 : decode zb_Mo_rest 172 = .ok (.if_icmp .ne 9, 3) := by decide +kernel
theorem d_Mo_rest_175 : decode zb_Mo_rest 175 = .ok (.aload_n 0, 1) := by decide +kernel
theorem d_Mo_rest_176 : decode zb_Mo_rest 176 = .ok (.iload_n 3, 1) := by decide +kernel
theorem d_Mo_rest_177 : decode zb_Mo_rest 177 = .ok (.invokevirtual 117, 3) := by decide +kernel
theorem d_Mo_rest_180 : decode zb_Mo_rest 180 = .ok (.istore_n 3, 1) := by decide +kernel
theorem d_Mo_rest_181 : decode zb_Mo_rest 181 = .ok (.iinc 3 1, 3) := by decide +kernel
theorem d_Mo_rest_184 : decode zb_Mo_rest 184 = .ok (.goto (-32), 3) := by decide +kernel
theorem d_Mo_rest_187 : decode zb_Mo_rest 187 = .ok (.iload_n 2, 1) := by decide +kernel
theorem d_Mo_rest_188 : decode zb_Mo_rest 188 = .ok (.ireturn, 1) := by decide +kernel
def k_Mo_rest_152 (l1 : Int32) : Nat → Int32 → Int32 → zsM → Option (Int32 × zsM)
  | 0, _, _, _ => none
  | fu + 1, l2, l3, x => (if l3 < (x.1 16) then (if l1 = (1 : Int32) then (k_Mo_partOf x l3 ((4 : Int32))).bind fun o9 => (if o9 = (3 : Int32) then (k_Mo_endsAt x l3).bind fun o11 => k_Mo_rest_152 l1 fu l2 ((o11.1 + (1 : Int32))) o11.2 else k_Mo_rest_152 l1 fu l2 ((l3 + (1 : Int32))) x) else k_Mo_rest_152 l1 fu l2 ((l3 + (1 : Int32))) x) else some (l2, x))
set_option maxRecDepth 20000 in
theorem w_Mo_rest_152 {X : zX} {c : zY} {q : Nat → Nat} {l1 : Int32} {out : Int32 × zsM} (hX : Ok X zr_Mo zb_Mo_rest 5 4 c) (hR : Rt X (some .int) (some (.int out.1)) (zwM c q out.2)) : ∀ (fu : Nat) (l2 : Int32) (l3 : Int32) (x : zsM), k_Mo_rest_152 l1 fu l2 l3 x = some out → Go X (zwM c q x) [(0, .ref ((q 0))), (1, .int l1), (2, .int l2), (3, .int l3)] 152 [] := by
  intro fu
  induction fu with
  | zero => intro l2 l3 x h; rw [k_Mo_rest_152] at h; cases h
  | succ fu ih =>
    intro l2 l3 x h
    rw [k_Mo_rest_152] at h
    refine g_iload_n (pc := 152) hX d_Mo_rest_152 rfl 3 rfl ?_
    refine g_aload_n (pc := 153) hX d_Mo_rest_153 rfl 0 rfl ?_
    refine gf_Mo_95 (pc := 154) (v := .int ((x.1 16))) hX 0 rfl rfl d_Mo_rest_154 ?_
    refine g_icmp_ge (pc := 157) (tgt := 187) hX d_Mo_rest_157 (by decide) h (fun c7 h => ?_) (fun c7 h => ?_)
    · refine g_iload_n (pc := 187) hX d_Mo_rest_187 rfl 2 rfl ?_
      obtain rfl := Option.some.inj h
      exact g_iret (pc := 188) hX hR d_Mo_rest_188
    · refine g_iload_n (pc := 160) hX d_Mo_rest_160 rfl 1 rfl ?_
      refine g_iconst (pc := 161) hX d_Mo_rest_161 zc_1 ?_
      refine g_icmp_ne (pc := 162) (tgt := 181) hX d_Mo_rest_162 (by decide) h (fun c8 h => ?_) (fun c8 h => ?_)
      · refine g_iinc (pc := 181) (q := 3) (L' := [(3, .int ((l3 + (1 : Int32)))), (0, .ref ((q 0))), (1, .int l1), (2, .int l2)]) hX d_Mo_rest_181 rfl zc_1 rfl rfl ?_
        refine g_goto (pc := 184) (tgt := 152) hX d_Mo_rest_184 (by decide) ?_
        refine g_ls (L' := [(0, .ref ((q 0))), (1, .int l1), (2, .int l2), (3, .int ((l3 + (1 : Int32))))]) [1, 2, 3, 0] rfl ?_
        exact ih _ _ _ h
      · refine g_aload_n (pc := 165) hX d_Mo_rest_165 rfl 0 rfl ?_
        refine g_iload_n (pc := 166) hX d_Mo_rest_166 rfl 3 rfl ?_
        refine g_iconst (pc := 167) hX d_Mo_rest_167 zc_4 ?_
        obtain ⟨o9, e9, h⟩ := zbind h
        refine g_cvI (pc := 168) (w1 := []) (w2 := []) (st := []) (w' := (zwM c q x)) hX zk_Mo_partOf zs_Mo_partOf zL_Mo_98 (c_Mo_partOf c q x l3 ((4 : Int32)) e9) rfl rfl rfl rfl (zself _) (zself _).symm 0 10 rfl rfl rfl d_Mo_rest_168 ?_
        refine g_iconst (pc := 171) hX d_Mo_rest_171 zc_3 ?_
        refine g_icmp_ne (pc := 172) (tgt := 181) hX d_Mo_rest_172 (by decide) h (fun c10 h => ?_) (fun c10 h => ?_)
        · refine g_iinc (pc := 181) (q := 3) (L' := [(3, .int ((l3 + (1 : Int32)))), (0, .ref ((q 0))), (1, .int l1), (2, .int l2)]) hX d_Mo_rest_181 rfl zc_1 rfl rfl ?_
          refine g_goto (pc := 184) (tgt := 152) hX d_Mo_rest_184 (by decide) ?_
          refine g_ls (L' := [(0, .ref ((q 0))), (1, .int l1), (2, .int l2), (3, .int ((l3 + (1 : Int32))))]) [1, 2, 3, 0] rfl ?_
          exact ih _ _ _ h
        · refine g_aload_n (pc := 175) hX d_Mo_rest_175 rfl 0 rfl ?_
          refine g_iload_n (pc := 176) hX d_Mo_rest_176 rfl 3 rfl ?_
          obtain ⟨o11, e11, h⟩ := zbind h
          refine g_cvI (pc := 177) (w1 := []) (w2 := []) (st := []) (w' := (zwM c q o11.2)) hX zk_Mo_endsAt zs_Mo_endsAt zL_Mo_117 (c_Mo_endsAt c q x l3 e11) rfl rfl rfl rfl (zself _) (zself _).symm 0 10 rfl rfl rfl d_Mo_rest_177 ?_
          refine g_istore_n (pc := 180) (L' := [(3, .int o11.1), (0, .ref ((q 0))), (1, .int l1), (2, .int l2)]) hX d_Mo_rest_180 rfl rfl rfl ?_
          refine g_iinc (pc := 181) (q := 0) (L' := [(3, .int ((o11.1 + (1 : Int32)))), (0, .ref ((q 0))), (1, .int l1), (2, .int l2)]) hX d_Mo_rest_181 rfl zc_1 rfl rfl ?_
          refine g_goto (pc := 184) (tgt := 152) hX d_Mo_rest_184 (by decide) ?_
          refine g_ls (L' := [(0, .ref ((q 0))), (1, .int l1), (2, .int l2), (3, .int ((o11.1 + (1 : Int32))))]) [1, 2, 3, 0] rfl ?_
          exact ih _ _ _ h
def k_Mo_rest_128 (l1 : Int32) (kf_57 : Int32 → Int32 → zsM → Option (Int32 × zsM)) (kf_116 : Int32 → Int32 → Int32 → zsM → Option (Int32 × zsM)) (l2 : Int32) (l3 : Int32) (l4 : Int32) (s0 : Int32) (s1 : Int32) (x : zsM) : Option (Int32 × zsM) := (if s1 < s0 then (k_Mo_refills x l3 l4).bind fun o17 => kf_116 l2 l3 ((l4 + (1 : Int32))) o17 else kf_57 l2 ((l3 + (1 : Int32))) x)
set_option maxRecDepth 20000 in
theorem w_Mo_rest_128 {X : zX} {c : zY} {q : Nat → Nat} {l1 : Int32} {out : Int32 × zsM} {kf_57 : Int32 → Int32 → zsM → Option (Int32 × zsM)} {kf_116 : Int32 → Int32 → Int32 → zsM → Option (Int32 × zsM)} (hX : Ok X zr_Mo zb_Mo_rest 5 4 c) (hR : Rt X (some .int) (some (.int out.1)) (zwM c q out.2)) (hk_57 : ∀ (l2 : Int32) (l3 : Int32) (x : zsM), kf_57 l2 l3 x = some out → Go X (zwM c q x) [(0, .ref ((q 0))), (1, .int l1), (2, .int l2), (3, .int l3)] 57 []) (hk_116 : ∀ (l2 : Int32) (l3 : Int32) (l4 : Int32) (x : zsM), kf_116 l2 l3 l4 x = some out → Go X (zwM c q x) [(0, .ref ((q 0))), (1, .int l1), (2, .int l2), (3, .int l3), (4, .int l4)] 116 []) : ∀ (l2 : Int32) (l3 : Int32) (l4 : Int32) (s0 : Int32) (s1 : Int32) (x : zsM), k_Mo_rest_128 l1 kf_57 kf_116 l2 l3 l4 s0 s1 x = some out → Go X (zwM c q x) [(0, .ref ((q 0))), (1, .int l1), (2, .int l2), (3, .int l3), (4, .int l4)] 128 [.int s0, .int s1] := by
  intro l2 l3 l4 s0 s1 x h
  rw [k_Mo_rest_128] at h
  refine g_icmp_ge (pc := 128) (tgt := 144) hX d_Mo_rest_128 (by decide) h (fun c16 h => ?_) (fun c16 h => ?_)
  · refine g_iinc (pc := 144) (q := 3) (L' := [(3, .int ((l3 + (1 : Int32)))), (0, .ref ((q 0))), (1, .int l1), (2, .int l2), (4, .int l4)]) hX d_Mo_rest_144 rfl zc_1 rfl rfl ?_
    refine g_goto (pc := 147) (tgt := 57) hX d_Mo_rest_147 (by decide) ?_
    refine g_ls (L' := [(0, .ref ((q 0))), (1, .int l1), (2, .int l2), (3, .int ((l3 + (1 : Int32))))]) [1, 2, 3, 0] rfl ?_
    exact hk_57 _ _ _ h
  · refine g_aload_n (pc := 131) hX d_Mo_rest_131 rfl 0 rfl ?_
    refine g_iload_n (pc := 132) hX d_Mo_rest_132 rfl 3 rfl ?_
    refine g_iload (pc := 133) hX d_Mo_rest_133 4 rfl ?_
    obtain ⟨o17, e17, h⟩ := zbind h
    refine g_cvV (pc := 135) (w1 := []) (w2 := []) (st := []) (w' := (zwM c q o17)) hX zk_Mo_refills zs_Mo_refills zL_Mo_283 (c_Mo_refills c q x l3 l4 e17) rfl rfl rfl rfl (zself _) (zself _).symm 0 10 rfl rfl rfl d_Mo_rest_135 ?_
    refine g_iinc (pc := 138) (q := 4) (L' := [(4, .int ((l4 + (1 : Int32)))), (0, .ref ((q 0))), (1, .int l1), (2, .int l2), (3, .int l3)]) hX d_Mo_rest_138 rfl zc_1 rfl rfl ?_
    refine g_goto (pc := 141) (tgt := 116) hX d_Mo_rest_141 (by decide) ?_
    refine g_ls (L' := [(0, .ref ((q 0))), (1, .int l1), (2, .int l2), (3, .int l3), (4, .int ((l4 + (1 : Int32))))]) [1, 2, 3, 4, 0] rfl ?_
    exact hk_116 _ _ _ _ h
def k_Mo_rest_116 (l1 : Int32) (kf_57 : Int32 → Int32 → zsM → Option (Int32 × zsM)) : Nat → Int32 → Int32 → Int32 → zsM → Option (Int32 × zsM)
  | 0, _, _, _, _ => none
  | fu + 1, l2, l3, l4, x => (if l1 = (1 : Int32) then k_Mo_rest_128 l1 kf_57 (k_Mo_rest_116 l1 kf_57 fu) l2 l3 l4 ((3 : Int32)) l4 x else k_Mo_rest_128 l1 kf_57 (k_Mo_rest_116 l1 kf_57 fu) l2 l3 l4 ((1 : Int32)) l4 x)
set_option maxRecDepth 20000 in
theorem w_Mo_rest_116 {X : zX} {c : zY} {q : Nat → Nat} {l1 : Int32} {out : Int32 × zsM} {kf_57 : Int32 → Int32 → zsM → Option (Int32 × zsM)} (hX : Ok X zr_Mo zb_Mo_rest 5 4 c) (hR : Rt X (some .int) (some (.int out.1)) (zwM c q out.2)) (hk_57 : ∀ (l2 : Int32) (l3 : Int32) (x : zsM), kf_57 l2 l3 x = some out → Go X (zwM c q x) [(0, .ref ((q 0))), (1, .int l1), (2, .int l2), (3, .int l3)] 57 []) : ∀ (fu : Nat) (l2 : Int32) (l3 : Int32) (l4 : Int32) (x : zsM), k_Mo_rest_116 l1 kf_57 fu l2 l3 l4 x = some out → Go X (zwM c q x) [(0, .ref ((q 0))), (1, .int l1), (2, .int l2), (3, .int l3), (4, .int l4)] 116 [] := by
  intro fu
  induction fu with
  | zero => intro l2 l3 l4 x h; rw [k_Mo_rest_116] at h; cases h
  | succ fu ih =>
    intro l2 l3 l4 x h
    rw [k_Mo_rest_116] at h
    refine g_iload (pc := 116) hX d_Mo_rest_116 4 rfl ?_
    refine g_iload_n (pc := 118) hX d_Mo_rest_118 rfl 1 rfl ?_
    refine g_iconst (pc := 119) hX d_Mo_rest_119 zc_1 ?_
    refine g_icmp_ne (pc := 120) (tgt := 127) hX d_Mo_rest_120 (by decide) h (fun c15 h => ?_) (fun c15 h => ?_)
    · refine g_iconst (pc := 127) hX d_Mo_rest_127 zc_1 ?_
      exact w_Mo_rest_128 hX hR hk_57 ih _ _ _ _ _ _ h
    · refine g_iconst (pc := 123) hX d_Mo_rest_123 zc_3 ?_
      refine g_goto (pc := 124) (tgt := 128) hX d_Mo_rest_124 (by decide) ?_
      exact w_Mo_rest_128 hX hR hk_57 ih _ _ _ _ _ _ h
def k_Mo_rest_57 (l1 : Int32) : Nat → Int32 → Int32 → zsM → Option (Int32 × zsM)
  | 0, _, _, _ => none
  | fu + 1, l2, l3, x => (if l3 < (x.1 11) then (if l1 = (1 : Int32) then (if zOut l3 8 then none else (k_Mo_mends x l3 ((((x.2 3)) l3.toNatClampNeg))).bind fun o19 => k_Mo_rest_116 l1 (k_Mo_rest_57 l1 fu) zFu ((l2 + o19.1)) l3 ((0 : Int32)) o19.2) else (k_Mo_isDown x l3).bind fun o13 => (if o13 = 0 then (if zOut l3 8 then none else (k_Mo_mends x l3 ((((((x.2 3)) l3.toNatClampNeg) + (1 : Int32)) / (2 : Int32)))).bind fun o18 => k_Mo_rest_116 l1 (k_Mo_rest_57 l1 fu) zFu ((l2 + o18.1)) l3 ((0 : Int32)) o18.2) else k_Mo_rest_116 l1 (k_Mo_rest_57 l1 fu) zFu l2 l3 ((0 : Int32)) x)) else k_Mo_rest_152 l1 zFu l2 ((0 : Int32)) x)
set_option maxRecDepth 20000 in
theorem w_Mo_rest_57 {X : zX} {c : zY} {q : Nat → Nat} {l1 : Int32} {out : Int32 × zsM} (hX : Ok X zr_Mo zb_Mo_rest 5 4 c) (hR : Rt X (some .int) (some (.int out.1)) (zwM c q out.2)) : ∀ (fu : Nat) (l2 : Int32) (l3 : Int32) (x : zsM), k_Mo_rest_57 l1 fu l2 l3 x = some out → Go X (zwM c q x) [(0, .ref ((q 0))), (1, .int l1), (2, .int l2), (3, .int l3)] 57 [] := by
  intro fu
  induction fu with
  | zero => intro l2 l3 x h; rw [k_Mo_rest_57] at h; cases h
  | succ fu ih =>
    intro l2 l3 x h
    rw [k_Mo_rest_57] at h
    refine g_iload_n (pc := 57) hX d_Mo_rest_57 rfl 3 rfl ?_
    refine g_aload_n (pc := 58) hX d_Mo_rest_58 rfl 0 rfl ?_
    refine gf_Mo_81 (pc := 59) (v := .int ((x.1 11))) hX 0 rfl rfl d_Mo_rest_59 ?_
    refine g_icmp_ge (pc := 62) (tgt := 150) hX d_Mo_rest_62 (by decide) h (fun c6 h => ?_) (fun c6 h => ?_)
    · refine g_iconst (pc := 150) hX d_Mo_rest_150 zc_0 ?_
      refine g_istore_n (pc := 151) (L' := [(3, .int ((0 : Int32))), (0, .ref ((q 0))), (1, .int l1), (2, .int l2)]) hX d_Mo_rest_151 rfl rfl rfl ?_
      refine g_ls (L' := [(0, .ref ((q 0))), (1, .int l1), (2, .int l2), (3, .int ((0 : Int32)))]) [1, 2, 3, 0] rfl ?_
      exact w_Mo_rest_152 hX hR _ _ _ _ h
    · refine g_iload_n (pc := 65) hX d_Mo_rest_65 rfl 1 rfl ?_
      refine g_iconst (pc := 66) hX d_Mo_rest_66 zc_1 ?_
      refine g_icmp_ne (pc := 67) (tgt := 87) hX d_Mo_rest_67 (by decide) h (fun c12 h => ?_) (fun c12 h => ?_)
      · refine g_aload_n (pc := 87) hX d_Mo_rest_87 rfl 0 rfl ?_
        refine g_iload_n (pc := 88) hX d_Mo_rest_88 rfl 3 rfl ?_
        obtain ⟨o13, e13, h⟩ := zbind h
        refine g_cvI (pc := 89) (w1 := []) (w2 := []) (st := []) (w' := (zwM c q x)) hX zk_Mo_isDown zs_Mo_isDown zL_Mo_110 (c_Mo_isDown c q x l3 e13) rfl rfl rfl rfl (zself _) (zself _).symm 0 10 rfl rfl rfl d_Mo_rest_89 ?_
        refine g_if_ne (pc := 92) (tgt := 113) hX d_Mo_rest_92 (by decide) h (fun c14 h => ?_) (fun c14 h => ?_)
        · refine g_iconst (pc := 113) hX d_Mo_rest_113 zc_0 ?_
          refine g_istore (pc := 114) (L' := [(4, .int ((0 : Int32))), (0, .ref ((q 0))), (1, .int l1), (2, .int l2), (3, .int l3)]) hX d_Mo_rest_114 rfl rfl ?_
          refine g_ls (L' := [(0, .ref ((q 0))), (1, .int l1), (2, .int l2), (3, .int l3), (4, .int ((0 : Int32)))]) [1, 2, 3, 4, 0] rfl ?_
          exact w_Mo_rest_116 hX hR ih _ _ _ _ _ h
        · refine g_iload_n (pc := 95) hX d_Mo_rest_95 rfl 2 rfl ?_
          refine g_aload_n (pc := 96) hX d_Mo_rest_96 rfl 0 rfl ?_
          refine g_iload_n (pc := 97) hX d_Mo_rest_97 rfl 3 rfl ?_
          refine g_aload_n (pc := 98) hX d_Mo_rest_98 rfl 0 rfl ?_
          refine gf_Mo_19 (pc := 99) (v := .ref ((q 4))) hX 0 rfl rfl d_Mo_rest_99 ?_
          refine g_iload_n (pc := 102) hX d_Mo_rest_102 rfl 3 rfl ?_
          refine g_iald (pc := 103) (f := (x.2 3)) hX 4 rfl h d_Mo_rest_103 (fun h => ?_)
          refine g_iconst (pc := 104) hX d_Mo_rest_104 zc_1 ?_
          refine g_iadd (pc := 105) hX d_Mo_rest_105 ?_
          refine g_iconst (pc := 106) hX d_Mo_rest_106 zc_2 ?_
          refine g_idiv (pc := 107) hX d_Mo_rest_107 (by decide) ?_
          obtain ⟨o18, e18, h⟩ := zbind h
          refine g_cvI (pc := 108) (w1 := []) (w2 := []) (st := [.int l2]) (w' := (zwM c q o18.2)) hX zk_Mo_mends zs_Mo_mends zL_Mo_267 (c_Mo_mends c q x l3 ((((((x.2 3)) l3.toNatClampNeg) + (1 : Int32)) / (2 : Int32))) e18) rfl rfl rfl rfl (zself _) (zself _).symm 0 10 rfl rfl rfl d_Mo_rest_108 ?_
          refine g_iadd (pc := 111) hX d_Mo_rest_111 ?_
          refine g_istore_n (pc := 112) (L' := [(2, .int ((l2 + o18.1))), (0, .ref ((q 0))), (1, .int l1), (3, .int l3)]) hX d_Mo_rest_112 rfl rfl rfl ?_
          refine g_iconst (pc := 113) hX d_Mo_rest_113 zc_0 ?_
          refine g_istore (pc := 114) (L' := [(4, .int ((0 : Int32))), (2, .int ((l2 + o18.1))), (0, .ref ((q 0))), (1, .int l1), (3, .int l3)]) hX d_Mo_rest_114 rfl rfl ?_
          refine g_ls (L' := [(0, .ref ((q 0))), (1, .int l1), (2, .int ((l2 + o18.1))), (3, .int l3), (4, .int ((0 : Int32)))]) [2, 3, 1, 4, 0] rfl ?_
          exact w_Mo_rest_116 hX hR ih _ _ _ _ _ h
      · refine g_iload_n (pc := 70) hX d_Mo_rest_70 rfl 2 rfl ?_
        refine g_aload_n (pc := 71) hX d_Mo_rest_71 rfl 0 rfl ?_
        refine g_iload_n (pc := 72) hX d_Mo_rest_72 rfl 3 rfl ?_
        refine g_aload_n (pc := 73) hX d_Mo_rest_73 rfl 0 rfl ?_
        refine gf_Mo_19 (pc := 74) (v := .ref ((q 4))) hX 0 rfl rfl d_Mo_rest_74 ?_
        refine g_iload_n (pc := 77) hX d_Mo_rest_77 rfl 3 rfl ?_
        refine g_iald (pc := 78) (f := (x.2 3)) hX 4 rfl h d_Mo_rest_78 (fun h => ?_)
        obtain ⟨o19, e19, h⟩ := zbind h
        refine g_cvI (pc := 79) (w1 := []) (w2 := []) (st := [.int l2]) (w' := (zwM c q o19.2)) hX zk_Mo_mends zs_Mo_mends zL_Mo_267 (c_Mo_mends c q x l3 ((((x.2 3)) l3.toNatClampNeg)) e19) rfl rfl rfl rfl (zself _) (zself _).symm 0 10 rfl rfl rfl d_Mo_rest_79 ?_
        refine g_iadd (pc := 82) hX d_Mo_rest_82 ?_
        refine g_istore_n (pc := 83) (L' := [(2, .int ((l2 + o19.1))), (0, .ref ((q 0))), (1, .int l1), (3, .int l3)]) hX d_Mo_rest_83 rfl rfl rfl ?_
        refine g_goto (pc := 84) (tgt := 113) hX d_Mo_rest_84 (by decide) ?_
        refine g_iconst (pc := 113) hX d_Mo_rest_113 zc_0 ?_
        refine g_istore (pc := 114) (L' := [(4, .int ((0 : Int32))), (2, .int ((l2 + o19.1))), (0, .ref ((q 0))), (1, .int l1), (3, .int l3)]) hX d_Mo_rest_114 rfl rfl ?_
        refine g_ls (L' := [(0, .ref ((q 0))), (1, .int l1), (2, .int ((l2 + o19.1))), (3, .int l3), (4, .int ((0 : Int32)))]) [2, 3, 1, 4, 0] rfl ?_
        exact w_Mo_rest_116 hX hR ih _ _ _ _ _ h
def k_Mo_rest (x : zsM) (l1 : Int32) : Option (Int32 × zsM) := (k_Mo_isBetween l1 ((0 : Int32)) ((1 : Int32))).bind fun o1 => (if o1 = 0 then some ((-1 : Int32), x) else (if (x.1 19) = (1 : Int32) then (k_Mo_refuses x ((2 : Int32))).bind fun o21 => some (o21.1, o21.2) else (if (x.1 11) = 0 then (k_Mo_refuses x ((10 : Int32))).bind fun o20 => some (o20.1, o20.2) else (k_Mo_remembers x).bind fun o5 => k_Mo_rest_57 l1 zFu ((0 : Int32)) ((0 : Int32)) (((upd o5.1 29 (((o5.1 29) + (1 : Int32)))), o5.2)))))
set_option maxRecDepth 20000 in
theorem c_Mo_rest (c : zY) (q : Nat → Nat) (x : zsM) (l1 : Int32) {out : Int32 × zsM} (h : k_Mo_rest x l1 = some out) : KM zy_Mo_rest zb_Mo_rest 5 (some .int) 4 c [.ref ((q 0)), .int l1] (zwM c q x) (zwM c q out.2) (some (.int out.1)) := zK_of zp_Mo rfl (Nat.le_of_ble_eq_true rfl) (zq_Mo c q _ _) (fun X hX hR => by
  show Go X (zwM c q x) [(0, .ref ((q 0))), (1, .int l1)] 0 []
  rw [k_Mo_rest] at h
  refine g_iload_n (pc := 0) hX d_Mo_rest_0 rfl 1 rfl ?_
  refine g_iconst (pc := 1) hX d_Mo_rest_1 zc_0 ?_
  refine g_iconst (pc := 2) hX d_Mo_rest_2 zc_1 ?_
  obtain ⟨o1, e1, h⟩ := zbind h
  refine g_csI (pc := 3) (st := []) hX zk_Mo_isBetween zL_Mo_84 (c_Mo_isBetween c l1 ((0 : Int32)) ((1 : Int32)) e1) rfl rfl rfl rfl rfl d_Mo_rest_3 ?_
  refine g_if_ne (pc := 6) (tgt := 11) hX d_Mo_rest_6 (by decide) h (fun c2 h => ?_) (fun c2 h => ?_)
  · refine g_aload_n (pc := 11) hX d_Mo_rest_11 rfl 0 rfl ?_
    refine gf_Mo_181 (pc := 12) (v := .int ((x.1 19))) hX 0 rfl rfl d_Mo_rest_12 ?_
    refine g_iconst (pc := 15) hX d_Mo_rest_15 zc_1 ?_
    refine g_icmp_ne (pc := 16) (tgt := 25) hX d_Mo_rest_16 (by decide) h (fun c3 h => ?_) (fun c3 h => ?_)
    · refine g_aload_n (pc := 25) hX d_Mo_rest_25 rfl 0 rfl ?_
      refine gf_Mo_81 (pc := 26) (v := .int ((x.1 11))) hX 0 rfl rfl d_Mo_rest_26 ?_
      refine g_if_ne (pc := 29) (tgt := 39) hX d_Mo_rest_29 (by decide) h (fun c4 h => ?_) (fun c4 h => ?_)
      · refine g_aload_n (pc := 39) hX d_Mo_rest_39 rfl 0 rfl ?_
        obtain ⟨o5, e5, h⟩ := zbind h
        refine g_cvV (pc := 40) (w1 := []) (w2 := []) (st := []) (w' := (zwM c q o5)) hX zk_Mo_remembers zs_Mo_remembers zL_Mo_175 (c_Mo_remembers c q x e5) rfl rfl rfl rfl (zself _) (zself _).symm 0 10 rfl rfl rfl d_Mo_rest_40 ?_
        refine g_aload_n (pc := 43) hX d_Mo_rest_43 rfl 0 rfl ?_
        refine g_dup (pc := 44) hX d_Mo_rest_44 rfl ?_
        refine gf_Mo_280 (pc := 45) (v := .int ((o5.1 29))) hX 0 rfl rfl d_Mo_rest_45 ?_
        refine g_iconst (pc := 48) hX d_Mo_rest_48 zc_1 ?_
        refine g_iadd (pc := 49) hX d_Mo_rest_49 ?_
        refine pf_Mo_280 (pc := 50) (w2 := (zwM c q (((upd o5.1 29 (((o5.1 29) + (1 : Int32)))), o5.2)))) hX 0 rfl rfl (su_Mo_0_29 c q o5 (((o5.1 29) + (1 : Int32)))) d_Mo_rest_50 ?_
        refine g_iconst (pc := 53) hX d_Mo_rest_53 zc_0 ?_
        refine g_istore_n (pc := 54) (L' := [(2, .int ((0 : Int32))), (0, .ref ((q 0))), (1, .int l1)]) hX d_Mo_rest_54 rfl rfl rfl ?_
        refine g_iconst (pc := 55) hX d_Mo_rest_55 zc_0 ?_
        refine g_istore_n (pc := 56) (L' := [(3, .int ((0 : Int32))), (2, .int ((0 : Int32))), (0, .ref ((q 0))), (1, .int l1)]) hX d_Mo_rest_56 rfl rfl rfl ?_
        refine g_ls (L' := [(0, .ref ((q 0))), (1, .int l1), (2, .int ((0 : Int32))), (3, .int ((0 : Int32)))]) [2, 3, 1, 0] rfl ?_
        exact w_Mo_rest_57 hX hR _ _ _ _ h
      · refine g_aload_n (pc := 32) hX d_Mo_rest_32 rfl 0 rfl ?_
        refine g_bipush (pc := 33) hX d_Mo_rest_33 ze_10 ?_
        obtain ⟨o20, e20, h⟩ := zbind h
        refine g_cvI (pc := 35) (w1 := []) (w2 := []) (st := []) (w' := (zwM c q o20.2)) hX zk_Mo_refuses zs_Mo_refuses zL_Mo_172 (c_Mo_refuses c q x ((10 : Int32)) e20) rfl rfl rfl rfl (zself _) (zself _).symm 0 10 rfl rfl rfl d_Mo_rest_35 ?_
        obtain rfl := Option.some.inj h
        exact g_iret (pc := 38) hX hR d_Mo_rest_38
    · refine g_aload_n (pc := 19) hX d_Mo_rest_19 rfl 0 rfl ?_
      refine g_iconst (pc := 20) hX d_Mo_rest_20 zc_2 ?_
      obtain ⟨o21, e21, h⟩ := zbind h
      refine g_cvI (pc := 21) (w1 := []) (w2 := []) (st := []) (w' := (zwM c q o21.2)) hX zk_Mo_refuses zs_Mo_refuses zL_Mo_172 (c_Mo_refuses c q x ((2 : Int32)) e21) rfl rfl rfl rfl (zself _) (zself _).symm 0 10 rfl rfl rfl d_Mo_rest_21 ?_
      obtain rfl := Option.some.inj h
      exact g_iret (pc := 24) hX hR d_Mo_rest_24
  · refine g_iconst (pc := 9) hX d_Mo_rest_9 zc_m1 ?_
    obtain rfl := Option.some.inj h
    exact g_iret (pc := 10) hX hR d_Mo_rest_10)
theorem d_Mo_fighterMore_0 : decode zb_Mo_fighterMore 0 = .ok (.iload_n 2, 1) := by decide +kernel
theorem d_Mo_fighterMore_1 : decode zb_Mo_fighterMore 1 = .ok (.bipush 10, 2) := by decide +kernel
theorem d_Mo_fighterMore_3 : decode zb_Mo_fighterMore 3 = .ok (.bipush 12, 2) := by decide +kernel
theorem d_Mo_fighterMore_5 : decode zb_Mo_fighterMore 5 = .ok (.invokestatic 84, 3) := by decide +kernel
theorem d_Mo_fighterMore_8 : decode zb_Mo_fighterMore 8 = .ok (.ifCond .eq 17, 3) := by decide +kernel
theorem d_Mo_fighterMore_11 : decode zb_Mo_fighterMore 11 = .ok (.aload_n 0, 1) := by decide +kernel
theorem d_Mo_fighterMore_12 : decode zb_Mo_fighterMore 12 = .ok (.getfield 34, 3) := by decide +kernel
theorem d_Mo_fighterMore_15 : decode zb_Mo_fighterMore 15 = .ok (.iconst 3, 1) := by decide +kernel
theorem d_Mo_fighterMore_16 : decode zb_Mo_fighterMore 16 = .ok (.iload_n 1, 1) := by decide +kernel
theorem d_Mo_fighterMore_17 : decode zb_Mo_fighterMore 17 = .ok (.imul, 1) := by decide +kernel
theorem d_Mo_fighterMore_18 : decode zb_Mo_fighterMore 18 = .ok (.iload_n 2, 1) := by decide +kernel
theorem d_Mo_fighterMore_19 : decode zb_Mo_fighterMore 19 = .ok (.iadd, 1) := by decide +kernel
theorem d_Mo_fighterMore_20 : decode zb_Mo_fighterMore 20 = .ok (.bipush 10, 2) := by decide +kernel
theorem d_Mo_fighterMore_22 : decode zb_Mo_fighterMore 22 = .ok (.isub, 1) := by decide +kernel
theorem d_Mo_fighterMore_23 : decode zb_Mo_fighterMore 23 = .ok (.iaload, 1) := by decide +kernel
theorem d_Mo_fighterMore_24 : decode zb_Mo_fighterMore 24 = .ok (.ireturn, 1) := by decide +kernel
theorem d_Mo_fighterMore_25 : decode zb_Mo_fighterMore 25 = .ok (.iload_n 2, 1) := by decide +kernel
theorem d_Mo_fighterMore_26 : decode zb_Mo_fighterMore 26 = .ok (.bipush 20, 2) := by decide +kernel
theorem d_Mo_fighterMore_28 : decode zb_Mo_fighterMore 28 = .ok (.bipush 22, 2) := by decide +kernel
theorem d_Mo_fighterMore_30 : decode zb_Mo_fighterMore 30 = .ok (.invokestatic 84, 3) := by decide +kernel
theorem d_Mo_fighterMore_33 : decode zb_Mo_fighterMore 33 = .ok (.ifCond .eq 17, 3) := by decide +kernel
theorem d_Mo_fighterMore_36 : decode zb_Mo_fighterMore 36 = .ok (.aload_n 0, 1) := by decide +kernel
theorem d_Mo_fighterMore_37 : decode zb_Mo_fighterMore 37 = .ok (.getfield 37, 3) := by decide +kernel
theorem d_Mo_fighterMore_40 : decode zb_Mo_fighterMore 40 = .ok (.iconst 3, 1) := by decide +kernel
theorem d_Mo_fighterMore_41 : decode zb_Mo_fighterMore 41 = .ok (.iload_n 1, 1) := by decide +kernel
theorem d_Mo_fighterMore_42 : decode zb_Mo_fighterMore 42 = .ok (.imul, 1) := by decide +kernel
theorem d_Mo_fighterMore_43 : decode zb_Mo_fighterMore 43 = .ok (.iload_n 2, 1) := by decide +kernel
theorem d_Mo_fighterMore_44 : decode zb_Mo_fighterMore 44 = .ok (.iadd, 1) := by decide +kernel
theorem d_Mo_fighterMore_45 : decode zb_Mo_fighterMore 45 = .ok (.bipush 20, 2) := by decide +kernel
theorem d_Mo_fighterMore_47 : decode zb_Mo_fighterMore 47 = .ok (.isub, 1) := by decide +kernel
theorem d_Mo_fighterMore_48 : decode zb_Mo_fighterMore 48 = .ok (.iaload, 1) := by decide +kernel
theorem d_Mo_fighterMore_49 : decode zb_Mo_fighterMore 49 = .ok (.ireturn, 1) := by decide +kernel
theorem d_Mo_fighterMore_50 : decode zb_Mo_fighterMore 50 = .ok (.iload_n 2, 1) := by decide +kernel
theorem d_Mo_fighterMore_51 : decode zb_Mo_fighterMore 51 = .ok (.bipush 30, 2) := by decide +kernel
theorem d_Mo_fighterMore_53 : decode zb_Mo_fighterMore 53 = .ok (.bipush 35, 2) := by decide +kernel
theorem d_Mo_fighterMore_55 : decode zb_Mo_fighterMore 55 = .ok (.invokestatic 84, 3) := by decide +kernel
theorem d_Mo_fighterMore_58 : decode zb_Mo_fighterMore 58 = .ok (.ifCond .eq 13, 3) := by decide +kernel
theorem d_Mo_fighterMore_61 : decode zb_Mo_fighterMore 61 = .ok (.aload_n 0, 1) := by decide +kernel
theorem d_Mo_fighterMore_62 : decode zb_Mo_fighterMore 62 = .ok (.iload_n 1, 1) := by decide +kernel
theorem d_Mo_fighterMore_63 : decode zb_Mo_fighterMore 63 = .ok (.iload_n 2, 1) := by decide +kernel
theorem d_Mo_fighterMore_64 : decode zb_Mo_fighterMore 64 = .ok (.bipush 30, 2) := by decide +kernel
theorem d_Mo_fighterMore_66 : decode zb_Mo_fighterMore 66 = .ok (.isub, 1) := by decide +kernel
theorem d_Mo_fighterMore_67 : decode zb_Mo_fighterMore 67 = .ok (.invokevirtual 114, 3) := by decide +kernel
theorem d_Mo_fighterMore_70 : decode zb_Mo_fighterMore 70 = .ok (.ireturn, 1) := by decide +kernel
theorem d_Mo_fighterMore_71 : decode zb_Mo_fighterMore 71 = .ok (.iload_n 2, 1) := by decide +kernel
theorem d_Mo_fighterMore_72 : decode zb_Mo_fighterMore 72 = .ok (.bipush 9, 2) := by decide +kernel
theorem d_Mo_fighterMore_74 : decode zb_Mo_fighterMore 74 = .ok (.if_icmp .eq 6, 3) := by decide +kernel
theorem d_Mo_fighterMore_77 : decode zb_Mo_fighterMore 77 = .ok (.bipush (-100), 2) := by decide +kernel
theorem d_Mo_fighterMore_79 : decode zb_Mo_fighterMore 79 = .ok (.ireturn, 1) := by decide +kernel
theorem d_Mo_fighterMore_80 : decode zb_Mo_fighterMore 80 = .ok (.iconst 0, 1) := by decide +kernel
theorem d_Mo_fighterMore_81 : decode zb_Mo_fighterMore 81 = .ok (.istore_n 3, 1) := by decide +kernel
theorem d_Mo_fighterMore_82 : decode zb_Mo_fighterMore 82 = .ok (.iconst 0, 1) := by decide +kernel
theorem d_Mo_fighterMore_83 : decode zb_Mo_fighterMore 83 = .ok (.istore 4, 2) := by decide +kernel
theorem d_Mo_fighterMore_85 : decode zb_Mo_fighterMore 85 = .ok (.iload 4, 2) := by decide +kernel
theorem d_Mo_fighterMore_87 : decode zb_Mo_fighterMore 87 = .ok (.aload_n 0, 1) := by decide +kernel
theorem d_Mo_fighterMore_88 : decode zb_Mo_fighterMore 88 = .ok (.getfield 95, 3) := by decide +kernel
theorem d_Mo_fighterMore_91 : decode zb_Mo_fighterMore 91 = .ok (.if_icmp .ge 28, 3) := by decide +kernel
theorem d_Mo_fighterMore_94 : decode zb_Mo_fighterMore 94 = .ok (.iload_n 3, 1) := by decide +kernel
theorem d_Mo_fighterMore_95 : decode zb_Mo_fighterMore 95 = .ok (.aload_n 0, 1) := by decide +kernel
theorem d_Mo_fighterMore_96 : decode zb_Mo_fighterMore 96 = .ok (.iload 4, 2) := by decide +kernel
theorem d_Mo_fighterMore_98 : decode zb_Mo_fighterMore 98 = .ok (.iconst 1, 1) := by decide +kernel
theorem d_Mo_fighterMore_99 : decode zb_Mo_fighterMore 99 = .ok (.invokevirtual 98, 3) := by decide +kernel
theorem d_Mo_fighterMore_102 : decode zb_Mo_fighterMore 102 = .ok (.iload_n 1, 1) := by decide +kernel
theorem d_Mo_fighterMore_103 : decode zb_Mo_fighterMore 103 = .ok (.if_icmp .ne 7, 3) := by decide +kernel
theorem d_Mo_fighterMore_106 : decode zb_Mo_fighterMore 106 = .ok (.iconst 1, 1) := by decide +kernel
theorem d_Mo_fighterMore_107 : decode zb_Mo_fighterMore 107 = .ok (.goto 4, 3) := by decide +kernel
theorem d_Mo_fighterMore_110 : decode zb_Mo_fighterMore 110 = .ok (.iconst 0, 1) := by decide +kernel
theorem d_Mo_fighterMore_111 : decode zb_Mo_fighterMore 111 = .ok (.iadd, 1) := by decide +kernel
theorem d_Mo_fighterMore_112 : decode zb_Mo_fighterMore 112 = .ok (.istore_n 3, 1) := by decide +kernel
theorem d_Mo_fighterMore_113 : decode zb_Mo_fighterMore 113 = .ok (.iinc 4 1, 3) := by decide +kernel
theorem d_Mo_fighterMore_116 : decode zb_Mo_fighterMore 116 = .ok (.goto (-31), 3) := by decide +kernel
theorem d_Mo_fighterMore_119 : decode zb_Mo_fighterMore 119 = .ok (.iload_n 3, 1) := by decide +kernel
theorem d_Mo_fighterMore_120 : decode zb_Mo_fighterMore 120 = .ok (.ireturn, 1) := by decide +kernel
def k_Mo_fighterMore_85 (x : zsM) (l1 : Int32) (l2 : Int32) : Nat → Int32 → Int32 → Option (Int32)
  | 0, _, _ => none
  | fu + 1, l3, l4 => (if l4 < (x.1 16) then (k_Mo_partOf x l4 ((1 : Int32))).bind fun o9 => (if o9 = l1 then k_Mo_fighterMore_85 x l1 l2 fu ((l3 + (1 : Int32))) ((l4 + (1 : Int32))) else k_Mo_fighterMore_85 x l1 l2 fu ((l3 + (0 : Int32))) ((l4 + (1 : Int32)))) else some l3)
set_option maxRecDepth 20000 in
theorem w_Mo_fighterMore_85 {X : zX} {c : zY} {q : Nat → Nat} {x : zsM} {l1 : Int32} {l2 : Int32} {out : Int32} (hX : Ok X zr_Mo zb_Mo_fighterMore 5 2 c) (hR : Rt X (some .int) (some (.int out)) (zwM c q x)) : ∀ (fu : Nat) (l3 : Int32) (l4 : Int32), k_Mo_fighterMore_85 x l1 l2 fu l3 l4 = some out → Go X (zwM c q x) [(0, .ref ((q 0))), (1, .int l1), (3, .int l3), (4, .int l4)] 85 [] := by
  intro fu
  induction fu with
  | zero => intro l3 l4 h; rw [k_Mo_fighterMore_85] at h; cases h
  | succ fu ih =>
    intro l3 l4 h
    rw [k_Mo_fighterMore_85] at h
    refine g_iload (pc := 85) hX d_Mo_fighterMore_85 3 rfl ?_
    refine g_aload_n (pc := 87) hX d_Mo_fighterMore_87 rfl 0 rfl ?_
    refine gf_Mo_95 (pc := 88) (v := .int ((x.1 16))) hX 0 rfl rfl d_Mo_fighterMore_88 ?_
    refine g_icmp_ge (pc := 91) (tgt := 119) hX d_Mo_fighterMore_91 (by decide) h (fun c8 h => ?_) (fun c8 h => ?_)
    · refine g_iload_n (pc := 119) hX d_Mo_fighterMore_119 rfl 2 rfl ?_
      obtain rfl := Option.some.inj h
      exact g_iret (pc := 120) hX hR d_Mo_fighterMore_120
    · refine g_iload_n (pc := 94) hX d_Mo_fighterMore_94 rfl 2 rfl ?_
      refine g_aload_n (pc := 95) hX d_Mo_fighterMore_95 rfl 0 rfl ?_
      refine g_iload (pc := 96) hX d_Mo_fighterMore_96 3 rfl ?_
      refine g_iconst (pc := 98) hX d_Mo_fighterMore_98 zc_1 ?_
      obtain ⟨o9, e9, h⟩ := zbind h
      refine g_cvI (pc := 99) (w1 := []) (w2 := []) (st := [.int l3]) (w' := (zwM c q x)) hX zk_Mo_partOf zs_Mo_partOf zL_Mo_98 (c_Mo_partOf c q x l4 ((1 : Int32)) e9) rfl rfl rfl rfl (zself _) (zself _).symm 0 10 rfl rfl rfl d_Mo_fighterMore_99 ?_
      refine g_iload_n (pc := 102) hX d_Mo_fighterMore_102 rfl 1 rfl ?_
      refine g_icmp_ne (pc := 103) (tgt := 110) hX d_Mo_fighterMore_103 (by decide) h (fun c10 h => ?_) (fun c10 h => ?_)
      · refine g_iconst (pc := 110) hX d_Mo_fighterMore_110 zc_0 ?_
        refine g_iadd (pc := 111) hX d_Mo_fighterMore_111 ?_
        refine g_istore_n (pc := 112) (L' := [(3, .int ((l3 + (0 : Int32)))), (0, .ref ((q 0))), (1, .int l1), (4, .int l4)]) hX d_Mo_fighterMore_112 rfl rfl rfl ?_
        refine g_iinc (pc := 113) (q := 3) (L' := [(4, .int ((l4 + (1 : Int32)))), (3, .int ((l3 + (0 : Int32)))), (0, .ref ((q 0))), (1, .int l1)]) hX d_Mo_fighterMore_113 rfl zc_1 rfl rfl ?_
        refine g_goto (pc := 116) (tgt := 85) hX d_Mo_fighterMore_116 (by decide) ?_
        refine g_ls (L' := [(0, .ref ((q 0))), (1, .int l1), (3, .int ((l3 + (0 : Int32)))), (4, .int ((l4 + (1 : Int32))))]) [2, 3, 1, 0] rfl ?_
        exact ih _ _ h
      · refine g_iconst (pc := 106) hX d_Mo_fighterMore_106 zc_1 ?_
        refine g_goto (pc := 107) (tgt := 111) hX d_Mo_fighterMore_107 (by decide) ?_
        refine g_iadd (pc := 111) hX d_Mo_fighterMore_111 ?_
        refine g_istore_n (pc := 112) (L' := [(3, .int ((l3 + (1 : Int32)))), (0, .ref ((q 0))), (1, .int l1), (4, .int l4)]) hX d_Mo_fighterMore_112 rfl rfl rfl ?_
        refine g_iinc (pc := 113) (q := 3) (L' := [(4, .int ((l4 + (1 : Int32)))), (3, .int ((l3 + (1 : Int32)))), (0, .ref ((q 0))), (1, .int l1)]) hX d_Mo_fighterMore_113 rfl zc_1 rfl rfl ?_
        refine g_goto (pc := 116) (tgt := 85) hX d_Mo_fighterMore_116 (by decide) ?_
        refine g_ls (L' := [(0, .ref ((q 0))), (1, .int l1), (3, .int ((l3 + (1 : Int32)))), (4, .int ((l4 + (1 : Int32))))]) [2, 3, 1, 0] rfl ?_
        exact ih _ _ h
def k_Mo_fighterMore (x : zsM) (l1 : Int32) (l2 : Int32) : Option (Int32) := (k_Mo_isBetween l2 ((10 : Int32)) ((12 : Int32))).bind fun o1 => (if o1 = 0 then (k_Mo_isBetween l2 ((20 : Int32)) ((22 : Int32))).bind fun o3 => (if o3 = 0 then (k_Mo_isBetween l2 ((30 : Int32)) ((35 : Int32))).bind fun o5 => (if o5 = 0 then (if l2 = (9 : Int32) then k_Mo_fighterMore_85 x l1 l2 zFu ((0 : Int32)) ((0 : Int32)) else some ((-100 : Int32))) else (k_Mo_sumOf x l1 ((l2 - (30 : Int32)))).bind fun o11 => some o11) else (if zOut (((((3 : Int32) * l1) + l2) - (20 : Int32))) 24 then none else some ((((x.2 9)) (((((3 : Int32) * l1) + l2) - (20 : Int32))).toNatClampNeg)))) else (if zOut (((((3 : Int32) * l1) + l2) - (10 : Int32))) 24 then none else some ((((x.2 8)) (((((3 : Int32) * l1) + l2) - (10 : Int32))).toNatClampNeg))))
set_option maxRecDepth 20000 in
theorem c_Mo_fighterMore (c : zY) (q : Nat → Nat) (x : zsM) (l1 : Int32) (l2 : Int32) {out : Int32} (h : k_Mo_fighterMore x l1 l2 = some out) : KM zy_Mo_fighterMore zb_Mo_fighterMore 5 (some .int) 2 c [.ref ((q 0)), .int l1, .int l2] (zwM c q x) (zwM c q x) (some (.int out)) := zK_of zp_Mo rfl (Nat.le_of_ble_eq_true rfl) (zq_Mo c q _ _) (fun X hX hR => by
  show Go X (zwM c q x) [(0, .ref ((q 0))), (1, .int l1), (2, .int l2)] 0 []
  rw [k_Mo_fighterMore] at h
  refine g_iload_n (pc := 0) hX d_Mo_fighterMore_0 rfl 2 rfl ?_
  refine g_bipush (pc := 1) hX d_Mo_fighterMore_1 ze_10 ?_
  refine g_bipush (pc := 3) hX d_Mo_fighterMore_3 ze_12 ?_
  obtain ⟨o1, e1, h⟩ := zbind h
  refine g_csI (pc := 5) (st := []) hX zk_Mo_isBetween zL_Mo_84 (c_Mo_isBetween c l2 ((10 : Int32)) ((12 : Int32)) e1) rfl rfl rfl rfl rfl d_Mo_fighterMore_5 ?_
  refine g_if_eq (pc := 8) (tgt := 25) hX d_Mo_fighterMore_8 (by decide) h (fun c2 h => ?_) (fun c2 h => ?_)
  · refine g_iload_n (pc := 25) hX d_Mo_fighterMore_25 rfl 2 rfl ?_
    refine g_bipush (pc := 26) hX d_Mo_fighterMore_26 ze_20 ?_
    refine g_bipush (pc := 28) hX d_Mo_fighterMore_28 ze_22 ?_
    obtain ⟨o3, e3, h⟩ := zbind h
    refine g_csI (pc := 30) (st := []) hX zk_Mo_isBetween zL_Mo_84 (c_Mo_isBetween c l2 ((20 : Int32)) ((22 : Int32)) e3) rfl rfl rfl rfl rfl d_Mo_fighterMore_30 ?_
    refine g_if_eq (pc := 33) (tgt := 50) hX d_Mo_fighterMore_33 (by decide) h (fun c4 h => ?_) (fun c4 h => ?_)
    · refine g_iload_n (pc := 50) hX d_Mo_fighterMore_50 rfl 2 rfl ?_
      refine g_bipush (pc := 51) hX d_Mo_fighterMore_51 ze_30 ?_
      refine g_bipush (pc := 53) hX d_Mo_fighterMore_53 ze_35 ?_
      obtain ⟨o5, e5, h⟩ := zbind h
      refine g_csI (pc := 55) (st := []) hX zk_Mo_isBetween zL_Mo_84 (c_Mo_isBetween c l2 ((30 : Int32)) ((35 : Int32)) e5) rfl rfl rfl rfl rfl d_Mo_fighterMore_55 ?_
      refine g_if_eq (pc := 58) (tgt := 71) hX d_Mo_fighterMore_58 (by decide) h (fun c6 h => ?_) (fun c6 h => ?_)
      · refine g_iload_n (pc := 71) hX d_Mo_fighterMore_71 rfl 2 rfl ?_
        refine g_bipush (pc := 72) hX d_Mo_fighterMore_72 ze_9 ?_
        refine g_icmp_eq (pc := 74) (tgt := 80) hX d_Mo_fighterMore_74 (by decide) h (fun c7 h => ?_) (fun c7 h => ?_)
        · refine g_iconst (pc := 80) hX d_Mo_fighterMore_80 zc_0 ?_
          refine g_istore_n (pc := 81) (L' := [(3, .int ((0 : Int32))), (0, .ref ((q 0))), (1, .int l1), (2, .int l2)]) hX d_Mo_fighterMore_81 rfl rfl rfl ?_
          refine g_iconst (pc := 82) hX d_Mo_fighterMore_82 zc_0 ?_
          refine g_istore (pc := 83) (L' := [(4, .int ((0 : Int32))), (3, .int ((0 : Int32))), (0, .ref ((q 0))), (1, .int l1), (2, .int l2)]) hX d_Mo_fighterMore_83 rfl rfl ?_
          refine g_ls (L' := [(0, .ref ((q 0))), (1, .int l1), (3, .int ((0 : Int32))), (4, .int ((0 : Int32)))]) [2, 3, 1, 0] rfl ?_
          exact w_Mo_fighterMore_85 hX hR _ _ _ h
        · refine g_bipush (pc := 77) hX d_Mo_fighterMore_77 ze_m100 ?_
          obtain rfl := Option.some.inj h
          exact g_iret (pc := 79) hX hR d_Mo_fighterMore_79
      · refine g_aload_n (pc := 61) hX d_Mo_fighterMore_61 rfl 0 rfl ?_
        refine g_iload_n (pc := 62) hX d_Mo_fighterMore_62 rfl 1 rfl ?_
        refine g_iload_n (pc := 63) hX d_Mo_fighterMore_63 rfl 2 rfl ?_
        refine g_bipush (pc := 64) hX d_Mo_fighterMore_64 ze_30 ?_
        refine g_isub (pc := 66) hX d_Mo_fighterMore_66 ?_
        obtain ⟨o11, e11, h⟩ := zbind h
        refine g_cvI (pc := 67) (w1 := []) (w2 := []) (st := []) (w' := (zwM c q x)) hX zk_Mo_sumOf zs_Mo_sumOf zL_Mo_114 (c_Mo_sumOf c q x l1 ((l2 - (30 : Int32))) e11) rfl rfl rfl rfl (zself _) (zself _).symm 0 10 rfl rfl rfl d_Mo_fighterMore_67 ?_
        obtain rfl := Option.some.inj h
        exact g_iret (pc := 70) hX hR d_Mo_fighterMore_70
    · refine g_aload_n (pc := 36) hX d_Mo_fighterMore_36 rfl 0 rfl ?_
      refine gf_Mo_37 (pc := 37) (v := .ref ((q 10))) hX 0 rfl rfl d_Mo_fighterMore_37 ?_
      refine g_iconst (pc := 40) hX d_Mo_fighterMore_40 zc_3 ?_
      refine g_iload_n (pc := 41) hX d_Mo_fighterMore_41 rfl 1 rfl ?_
      refine g_imul (pc := 42) hX d_Mo_fighterMore_42 ?_
      refine g_iload_n (pc := 43) hX d_Mo_fighterMore_43 rfl 2 rfl ?_
      refine g_iadd (pc := 44) hX d_Mo_fighterMore_44 ?_
      refine g_bipush (pc := 45) hX d_Mo_fighterMore_45 ze_20 ?_
      refine g_isub (pc := 47) hX d_Mo_fighterMore_47 ?_
      refine g_iald (pc := 48) (f := (x.2 9)) hX 10 rfl h d_Mo_fighterMore_48 (fun h => ?_)
      obtain rfl := Option.some.inj h
      exact g_iret (pc := 49) hX hR d_Mo_fighterMore_49
  · refine g_aload_n (pc := 11) hX d_Mo_fighterMore_11 rfl 0 rfl ?_
    refine gf_Mo_34 (pc := 12) (v := .ref ((q 9))) hX 0 rfl rfl d_Mo_fighterMore_12 ?_
    refine g_iconst (pc := 15) hX d_Mo_fighterMore_15 zc_3 ?_
    refine g_iload_n (pc := 16) hX d_Mo_fighterMore_16 rfl 1 rfl ?_
    refine g_imul (pc := 17) hX d_Mo_fighterMore_17 ?_
    refine g_iload_n (pc := 18) hX d_Mo_fighterMore_18 rfl 2 rfl ?_
    refine g_iadd (pc := 19) hX d_Mo_fighterMore_19 ?_
    refine g_bipush (pc := 20) hX d_Mo_fighterMore_20 ze_10 ?_
    refine g_isub (pc := 22) hX d_Mo_fighterMore_22 ?_
    refine g_iald (pc := 23) (f := (x.2 8)) hX 9 rfl h d_Mo_fighterMore_23 (fun h => ?_)
    obtain rfl := Option.some.inj h
    exact g_iret (pc := 24) hX hR d_Mo_fighterMore_24)
theorem d_Mo_fighter_0 : decode zb_Mo_fighter 0 = .ok (.aload_n 0, 1) := by decide +kernel
theorem d_Mo_fighter_1 : decode zb_Mo_fighter 1 = .ok (.iload_n 1, 1) := by decide +kernel
theorem d_Mo_fighter_2 : decode zb_Mo_fighter 2 = .ok (.invokevirtual 178, 3) := by decide +kernel
theorem d_Mo_fighter_5 : decode zb_Mo_fighter 5 = .ok (.ifCond .ne 6, 3) := by decide +kernel
theorem d_Mo_fighter_8 : decode zb_Mo_fighter 8 = .ok (.bipush (-100), 2) := by decide +kernel
theorem d_Mo_fighter_10 : decode zb_Mo_fighter 10 = .ok (.ireturn, 1) := by decide +kernel
theorem d_Mo_fighter_11 : decode zb_Mo_fighter 11 = .ok (.iload_n 2, 1) := by decide +kernel
theorem d_Mo_fighter_12 : decode zb_Mo_fighter 12 = .ok (.tableswitch 121 0 8 #[52, 59, 66, 73, 80, 87, 94, 108, 114], 52) := by decide +kernel
theorem d_Mo_fighter_64 : decode zb_Mo_fighter 64 = .ok (.aload_n 0, 1) := by decide +kernel
theorem d_Mo_fighter_65 : decode zb_Mo_fighter 65 = .ok (.getfield 13, 3) := by decide +kernel
theorem d_Mo_fighter_68 : decode zb_Mo_fighter 68 = .ok (.iload_n 1, 1) := by decide +kernel
theorem d_Mo_fighter_69 : decode zb_Mo_fighter 69 = .ok (.iaload, 1) := by decide +kernel
theorem d_Mo_fighter_70 : decode zb_Mo_fighter 70 = .ok (.ireturn, 1) := by decide +kernel
theorem d_Mo_fighter_71 : decode zb_Mo_fighter 71 = .ok (.aload_n 0, 1) := by decide +kernel
theorem d_Mo_fighter_72 : decode zb_Mo_fighter 72 = .ok (.getfield 16, 3) := by decide +kernel
theorem d_Mo_fighter_75 : decode zb_Mo_fighter 75 = .ok (.iload_n 1, 1) := by decide +kernel
theorem d_Mo_fighter_76 : decode zb_Mo_fighter 76 = .ok (.iaload, 1) := by decide +kernel
theorem d_Mo_fighter_77 : decode zb_Mo_fighter 77 = .ok (.ireturn, 1) := by decide +kernel
theorem d_Mo_fighter_78 : decode zb_Mo_fighter 78 = .ok (.aload_n 0, 1) := by decide +kernel
theorem d_Mo_fighter_79 : decode zb_Mo_fighter 79 = .ok (.getfield 22, 3) := by decide +kernel
theorem d_Mo_fighter_82 : decode zb_Mo_fighter 82 = .ok (.iload_n 1, 1) := by decide +kernel
theorem d_Mo_fighter_83 : decode zb_Mo_fighter 83 = .ok (.iaload, 1) := by decide +kernel
theorem d_Mo_fighter_84 : decode zb_Mo_fighter 84 = .ok (.ireturn, 1) := by decide +kernel
theorem d_Mo_fighter_85 : decode zb_Mo_fighter 85 = .ok (.aload_n 0, 1) := by decide +kernel
theorem d_Mo_fighter_86 : decode zb_Mo_fighter 86 = .ok (.getfield 19, 3) := by decide +kernel
theorem d_Mo_fighter_89 : decode zb_Mo_fighter 89 = .ok (.iload_n 1, 1) := by decide +kernel
theorem d_Mo_fighter_90 : decode zb_Mo_fighter 90 = .ok (.iaload, 1) := by decide +kernel
theorem d_Mo_fighter_91 : decode zb_Mo_fighter 91 = .ok (.ireturn, 1) := by decide +kernel
theorem d_Mo_fighter_92 : decode zb_Mo_fighter 92 = .ok (.aload_n 0, 1) := by decide +kernel
theorem d_Mo_fighter_93 : decode zb_Mo_fighter 93 = .ok (.getfield 25, 3) := by decide +kernel
theorem d_Mo_fighter_96 : decode zb_Mo_fighter 96 = .ok (.iload_n 1, 1) := by decide +kernel
theorem d_Mo_fighter_97 : decode zb_Mo_fighter 97 = .ok (.iaload, 1) := by decide +kernel
theorem d_Mo_fighter_98 : decode zb_Mo_fighter 98 = .ok (.ireturn, 1) := by decide +kernel
theorem d_Mo_fighter_99 : decode zb_Mo_fighter 99 = .ok (.aload_n 0, 1) := by decide +kernel
theorem d_Mo_fighter_100 : decode zb_Mo_fighter 100 = .ok (.getfield 28, 3) := by decide +kernel
theorem d_Mo_fighter_103 : decode zb_Mo_fighter 103 = .ok (.iload_n 1, 1) := by decide +kernel
theorem d_Mo_fighter_104 : decode zb_Mo_fighter 104 = .ok (.iaload, 1) := by decide +kernel
theorem d_Mo_fighter_105 : decode zb_Mo_fighter 105 = .ok (.ireturn, 1) := by decide +kernel
theorem d_Mo_fighter_106 : decode zb_Mo_fighter 106 = .ok (.aload_n 0, 1) := by decide +kernel
theorem d_Mo_fighter_107 : decode zb_Mo_fighter 107 = .ok (.iload_n 1, 1) := by decide +kernel
theorem d_Mo_fighter_108 : decode zb_Mo_fighter 108 = .ok (.invokevirtual 197, 3) := by decide +kernel
theorem d_Mo_fighter_111 : decode zb_Mo_fighter 111 = .ok (.ifCond .eq 7, 3) := by decide +kernel
theorem d_Mo_fighter_114 : decode zb_Mo_fighter 114 = .ok (.iconst 1, 1) := by decide +kernel
theorem d_Mo_fighter_115 : decode zb_Mo_fighter 115 = .ok (.goto 4, 3) := by decide +kernel
theorem d_Mo_fighter_118 : decode zb_Mo_fighter 118 = .ok (.iconst 0, 1) := by decide +kernel
theorem d_Mo_fighter_119 : decode zb_Mo_fighter 119 = .ok (.ireturn, 1) := by decide +kernel
theorem d_Mo_fighter_120 : decode zb_Mo_fighter 120 = .ok (.aload_n 0, 1) := by decide +kernel
theorem d_Mo_fighter_121 : decode zb_Mo_fighter 121 = .ok (.iload_n 1, 1) := by decide +kernel
theorem d_Mo_fighter_122 : decode zb_Mo_fighter 122 = .ok (.invokevirtual 200, 3) := by decide +kernel
theorem d_Mo_fighter_125 : decode zb_Mo_fighter 125 = .ok (.ireturn, 1) := by decide +kernel
theorem d_Mo_fighter_126 : decode zb_Mo_fighter 126 = .ok (.aload_n 0, 1) := by decide +kernel
theorem d_Mo_fighter_127 : decode zb_Mo_fighter 127 = .ok (.getfield 31, 3) := by decide +kernel
theorem d_Mo_fighter_130 : decode zb_Mo_fighter 130 = .ok (.iload_n 1, 1) := by decide +kernel
theorem d_Mo_fighter_131 : decode zb_Mo_fighter 131 = .ok (.iaload, 1) := by decide +kernel
theorem d_Mo_fighter_132 : decode zb_Mo_fighter 132 = .ok (.ireturn, 1) := by decide +kernel
theorem d_Mo_fighter_133 : decode zb_Mo_fighter 133 = .ok (.aload_n 0, 1) := by decide +kernel
theorem d_Mo_fighter_134 : decode zb_Mo_fighter 134 = .ok (.iload_n 1, 1) := by decide +kernel
theorem d_Mo_fighter_135 : decode zb_Mo_fighter 135 = .ok (.iload_n 2, 1) := by decide +kernel
theorem d_Mo_fighter_136 : decode zb_Mo_fighter 136 = .ok (.invokevirtual 286, 3) := by decide +kernel
theorem d_Mo_fighter_139 : decode zb_Mo_fighter 139 = .ok (.ireturn, 1) := by decide +kernel
def k_Mo_fighter (x : zsM) (l1 : Int32) (l2 : Int32) : Option (Int32) := (k_Mo_isFighter x l1).bind fun o1 => (if o1 = 0 then some ((-100 : Int32)) else (if l2 = (0 : Int32) then (if zOut l1 8 then none else some ((((x.2 1)) l1.toNatClampNeg))) else (if l2 = (1 : Int32) then (if zOut l1 8 then none else some ((((x.2 2)) l1.toNatClampNeg))) else (if l2 = (2 : Int32) then (if zOut l1 8 then none else some ((((x.2 4)) l1.toNatClampNeg))) else (if l2 = (3 : Int32) then (if zOut l1 8 then none else some ((((x.2 3)) l1.toNatClampNeg))) else (if l2 = (4 : Int32) then (if zOut l1 8 then none else some ((((x.2 5)) l1.toNatClampNeg))) else (if l2 = (5 : Int32) then (if zOut l1 8 then none else some ((((x.2 6)) l1.toNatClampNeg))) else (if l2 = (6 : Int32) then (k_Mo_canAct x l1).bind fun o10 => (if o10 = 0 then some ((0 : Int32)) else some ((1 : Int32))) else (if l2 = (7 : Int32) then (k_Mo_placeOf x l1).bind fun o13 => some o13 else (if l2 = (8 : Int32) then (if zOut l1 8 then none else some ((((x.2 7)) l1.toNatClampNeg))) else (k_Mo_fighterMore x l1 l2).bind fun o15 => some o15))))))))))
set_option maxRecDepth 20000 in
theorem c_Mo_fighter (c : zY) (q : Nat → Nat) (x : zsM) (l1 : Int32) (l2 : Int32) {out : Int32} (h : k_Mo_fighter x l1 l2 = some out) : KM zy_Mo_fighter zb_Mo_fighter 3 (some .int) 3 c [.ref ((q 0)), .int l1, .int l2] (zwM c q x) (zwM c q x) (some (.int out)) := zK_of zp_Mo rfl (Nat.le_of_ble_eq_true rfl) (zq_Mo c q _ _) (fun X hX hR => by
  show Go X (zwM c q x) [(0, .ref ((q 0))), (1, .int l1), (2, .int l2)] 0 []
  rw [k_Mo_fighter] at h
  refine g_aload_n (pc := 0) hX d_Mo_fighter_0 rfl 0 rfl ?_
  refine g_iload_n (pc := 1) hX d_Mo_fighter_1 rfl 1 rfl ?_
  obtain ⟨o1, e1, h⟩ := zbind h
  refine g_cvI (pc := 2) (w1 := []) (w2 := []) (st := []) (w' := (zwM c q x)) hX zk_Mo_isFighter zs_Mo_isFighter zL_Mo_178 (c_Mo_isFighter c q x l1 e1) rfl rfl rfl rfl (zself _) (zself _).symm 0 10 rfl rfl rfl d_Mo_fighter_2 ?_
  refine g_if_ne (pc := 5) (tgt := 11) hX d_Mo_fighter_5 (by decide) h (fun c2 h => ?_) (fun c2 h => ?_)
  · refine g_iload_n (pc := 11) hX d_Mo_fighter_11 rfl 2 rfl ?_
    by_cases c3 : l2 = (0 : Int32)
    · rw [if_pos c3] at h
      refine g_tswIn (pc := 12) (tgt := 64) (off := 52) hX d_Mo_fighter_12 (0 : Int32) c3 (by decide) (by decide) rfl (by decide) ?_
      refine g_aload_n (pc := 64) hX d_Mo_fighter_64 rfl 0 rfl ?_
      refine gf_Mo_13 (pc := 65) (v := .ref ((q 2))) hX 0 rfl rfl d_Mo_fighter_65 ?_
      refine g_iload_n (pc := 68) hX d_Mo_fighter_68 rfl 1 rfl ?_
      refine g_iald (pc := 69) (f := (x.2 1)) hX 2 rfl h d_Mo_fighter_69 (fun h => ?_)
      obtain rfl := Option.some.inj h
      exact g_iret (pc := 70) hX hR d_Mo_fighter_70
    rw [if_neg c3] at h
    by_cases c4 : l2 = (1 : Int32)
    · rw [if_pos c4] at h
      refine g_tswIn (pc := 12) (tgt := 71) (off := 59) hX d_Mo_fighter_12 (1 : Int32) c4 (by decide) (by decide) rfl (by decide) ?_
      refine g_aload_n (pc := 71) hX d_Mo_fighter_71 rfl 0 rfl ?_
      refine gf_Mo_16 (pc := 72) (v := .ref ((q 3))) hX 0 rfl rfl d_Mo_fighter_72 ?_
      refine g_iload_n (pc := 75) hX d_Mo_fighter_75 rfl 1 rfl ?_
      refine g_iald (pc := 76) (f := (x.2 2)) hX 3 rfl h d_Mo_fighter_76 (fun h => ?_)
      obtain rfl := Option.some.inj h
      exact g_iret (pc := 77) hX hR d_Mo_fighter_77
    rw [if_neg c4] at h
    by_cases c5 : l2 = (2 : Int32)
    · rw [if_pos c5] at h
      refine g_tswIn (pc := 12) (tgt := 78) (off := 66) hX d_Mo_fighter_12 (2 : Int32) c5 (by decide) (by decide) rfl (by decide) ?_
      refine g_aload_n (pc := 78) hX d_Mo_fighter_78 rfl 0 rfl ?_
      refine gf_Mo_22 (pc := 79) (v := .ref ((q 5))) hX 0 rfl rfl d_Mo_fighter_79 ?_
      refine g_iload_n (pc := 82) hX d_Mo_fighter_82 rfl 1 rfl ?_
      refine g_iald (pc := 83) (f := (x.2 4)) hX 5 rfl h d_Mo_fighter_83 (fun h => ?_)
      obtain rfl := Option.some.inj h
      exact g_iret (pc := 84) hX hR d_Mo_fighter_84
    rw [if_neg c5] at h
    by_cases c6 : l2 = (3 : Int32)
    · rw [if_pos c6] at h
      refine g_tswIn (pc := 12) (tgt := 85) (off := 73) hX d_Mo_fighter_12 (3 : Int32) c6 (by decide) (by decide) rfl (by decide) ?_
      refine g_aload_n (pc := 85) hX d_Mo_fighter_85 rfl 0 rfl ?_
      refine gf_Mo_19 (pc := 86) (v := .ref ((q 4))) hX 0 rfl rfl d_Mo_fighter_86 ?_
      refine g_iload_n (pc := 89) hX d_Mo_fighter_89 rfl 1 rfl ?_
      refine g_iald (pc := 90) (f := (x.2 3)) hX 4 rfl h d_Mo_fighter_90 (fun h => ?_)
      obtain rfl := Option.some.inj h
      exact g_iret (pc := 91) hX hR d_Mo_fighter_91
    rw [if_neg c6] at h
    by_cases c7 : l2 = (4 : Int32)
    · rw [if_pos c7] at h
      refine g_tswIn (pc := 12) (tgt := 92) (off := 80) hX d_Mo_fighter_12 (4 : Int32) c7 (by decide) (by decide) rfl (by decide) ?_
      refine g_aload_n (pc := 92) hX d_Mo_fighter_92 rfl 0 rfl ?_
      refine gf_Mo_25 (pc := 93) (v := .ref ((q 6))) hX 0 rfl rfl d_Mo_fighter_93 ?_
      refine g_iload_n (pc := 96) hX d_Mo_fighter_96 rfl 1 rfl ?_
      refine g_iald (pc := 97) (f := (x.2 5)) hX 6 rfl h d_Mo_fighter_97 (fun h => ?_)
      obtain rfl := Option.some.inj h
      exact g_iret (pc := 98) hX hR d_Mo_fighter_98
    rw [if_neg c7] at h
    by_cases c8 : l2 = (5 : Int32)
    · rw [if_pos c8] at h
      refine g_tswIn (pc := 12) (tgt := 99) (off := 87) hX d_Mo_fighter_12 (5 : Int32) c8 (by decide) (by decide) rfl (by decide) ?_
      refine g_aload_n (pc := 99) hX d_Mo_fighter_99 rfl 0 rfl ?_
      refine gf_Mo_28 (pc := 100) (v := .ref ((q 7))) hX 0 rfl rfl d_Mo_fighter_100 ?_
      refine g_iload_n (pc := 103) hX d_Mo_fighter_103 rfl 1 rfl ?_
      refine g_iald (pc := 104) (f := (x.2 6)) hX 7 rfl h d_Mo_fighter_104 (fun h => ?_)
      obtain rfl := Option.some.inj h
      exact g_iret (pc := 105) hX hR d_Mo_fighter_105
    rw [if_neg c8] at h
    by_cases c9 : l2 = (6 : Int32)
    · rw [if_pos c9] at h
      refine g_tswIn (pc := 12) (tgt := 106) (off := 94) hX d_Mo_fighter_12 (6 : Int32) c9 (by decide) (by decide) rfl (by decide) ?_
      refine g_aload_n (pc := 106) hX d_Mo_fighter_106 rfl 0 rfl ?_
      refine g_iload_n (pc := 107) hX d_Mo_fighter_107 rfl 1 rfl ?_
      obtain ⟨o10, e10, h⟩ := zbind h
      refine g_cvI (pc := 108) (w1 := []) (w2 := []) (st := []) (w' := (zwM c q x)) hX zk_Mo_canAct zs_Mo_canAct zL_Mo_197 (c_Mo_canAct c q x l1 e10) rfl rfl rfl rfl (zself _) (zself _).symm 0 10 rfl rfl rfl d_Mo_fighter_108 ?_
      refine g_if_eq (pc := 111) (tgt := 118) hX d_Mo_fighter_111 (by decide) h (fun c11 h => ?_) (fun c11 h => ?_)
      · refine g_iconst (pc := 118) hX d_Mo_fighter_118 zc_0 ?_
        obtain rfl := Option.some.inj h
        exact g_iret (pc := 119) hX hR d_Mo_fighter_119
      · refine g_iconst (pc := 114) hX d_Mo_fighter_114 zc_1 ?_
        refine g_goto (pc := 115) (tgt := 119) hX d_Mo_fighter_115 (by decide) ?_
        obtain rfl := Option.some.inj h
        exact g_iret (pc := 119) hX hR d_Mo_fighter_119
    rw [if_neg c9] at h
    by_cases c12 : l2 = (7 : Int32)
    · rw [if_pos c12] at h
      refine g_tswIn (pc := 12) (tgt := 120) (off := 108) hX d_Mo_fighter_12 (7 : Int32) c12 (by decide) (by decide) rfl (by decide) ?_
      refine g_aload_n (pc := 120) hX d_Mo_fighter_120 rfl 0 rfl ?_
      refine g_iload_n (pc := 121) hX d_Mo_fighter_121 rfl 1 rfl ?_
      obtain ⟨o13, e13, h⟩ := zbind h
      refine g_cvI (pc := 122) (w1 := []) (w2 := []) (st := []) (w' := (zwM c q x)) hX zk_Mo_placeOf zs_Mo_placeOf zL_Mo_200 (c_Mo_placeOf c q x l1 e13) rfl rfl rfl rfl (zself _) (zself _).symm 0 10 rfl rfl rfl d_Mo_fighter_122 ?_
      obtain rfl := Option.some.inj h
      exact g_iret (pc := 125) hX hR d_Mo_fighter_125
    rw [if_neg c12] at h
    by_cases c14 : l2 = (8 : Int32)
    · rw [if_pos c14] at h
      refine g_tswIn (pc := 12) (tgt := 126) (off := 114) hX d_Mo_fighter_12 (8 : Int32) c14 (by decide) (by decide) rfl (by decide) ?_
      refine g_aload_n (pc := 126) hX d_Mo_fighter_126 rfl 0 rfl ?_
      refine gf_Mo_31 (pc := 127) (v := .ref ((q 8))) hX 0 rfl rfl d_Mo_fighter_127 ?_
      refine g_iload_n (pc := 130) hX d_Mo_fighter_130 rfl 1 rfl ?_
      refine g_iald (pc := 131) (f := (x.2 7)) hX 8 rfl h d_Mo_fighter_131 (fun h => ?_)
      obtain rfl := Option.some.inj h
      exact g_iret (pc := 132) hX hR d_Mo_fighter_132
    rw [if_neg c14] at h
    refine g_tswOut (pc := 12) (tgt := 133) hX d_Mo_fighter_12 (by have a3 := lv_neT c3 (a := 0) (by decide); have a4 := lv_neT c4 (a := 1) (by decide); have a5 := lv_neT c5 (a := 2) (by decide); have a6 := lv_neT c6 (a := 3) (by decide); have a7 := lv_neT c7 (a := 4) (by decide); have a8 := lv_neT c8 (a := 5) (by decide); have a9 := lv_neT c9 (a := 6) (by decide); have a12 := lv_neT c12 (a := 7) (by decide); have a14 := lv_neT c14 (a := 8) (by decide); omega) (by decide) ?_
    refine g_aload_n (pc := 133) hX d_Mo_fighter_133 rfl 0 rfl ?_
    refine g_iload_n (pc := 134) hX d_Mo_fighter_134 rfl 1 rfl ?_
    refine g_iload_n (pc := 135) hX d_Mo_fighter_135 rfl 2 rfl ?_
    obtain ⟨o15, e15, h⟩ := zbind h
    refine g_cvI (pc := 136) (w1 := []) (w2 := []) (st := []) (w' := (zwM c q x)) hX zk_Mo_fighterMore zs_Mo_fighterMore zL_Mo_286 (c_Mo_fighterMore c q x l1 l2 e15) rfl rfl rfl rfl (zself _) (zself _).symm 0 10 rfl rfl rfl d_Mo_fighter_136 ?_
    obtain rfl := Option.some.inj h
    exact g_iret (pc := 139) hX hR d_Mo_fighter_139
  · refine g_bipush (pc := 8) hX d_Mo_fighter_8 ze_m100 ?_
    obtain rfl := Option.some.inj h
    exact g_iret (pc := 10) hX hR d_Mo_fighter_10)
theorem d_Mo_turn_0 : decode zb_Mo_turn 0 = .ok (.iload_n 1, 1) := by decide +kernel
theorem d_Mo_turn_1 : decode zb_Mo_turn 1 = .ok (.ifCond .lt 13, 3) := by decide +kernel
theorem d_Mo_turn_4 : decode zb_Mo_turn 4 = .ok (.iload_n 1, 1) := by decide +kernel
theorem d_Mo_turn_5 : decode zb_Mo_turn 5 = .ok (.iconst 4, 1) := by decide +kernel
theorem d_Mo_turn_6 : decode zb_Mo_turn 6 = .ok (.bipush 9, 2) := by decide +kernel
theorem d_Mo_turn_8 : decode zb_Mo_turn 8 = .ok (.invokestatic 84, 3) := by decide +kernel
theorem d_Mo_turn_11 : decode zb_Mo_turn 11 = .ok (.ifCond .eq 5, 3) := by decide +kernel
theorem d_Mo_turn_14 : decode zb_Mo_turn 14 = .ok (.iconst (-1), 1) := by decide +kernel
theorem d_Mo_turn_15 : decode zb_Mo_turn 15 = .ok (.ireturn, 1) := by decide +kernel
theorem d_Mo_turn_16 : decode zb_Mo_turn 16 = .ok (.iload_n 1, 1) := by decide +kernel
theorem d_Mo_turn_17 : decode zb_Mo_turn 17 = .ok (.ifCond .ne 8, 3) := by decide +kernel
theorem d_Mo_turn_20 : decode zb_Mo_turn 20 = .ok (.aload_n 0, 1) := by decide +kernel
theorem d_Mo_turn_21 : decode zb_Mo_turn 21 = .ok (.getfield 149, 3) := by decide +kernel
theorem d_Mo_turn_24 : decode zb_Mo_turn 24 = .ok (.ireturn, 1) := by decide +kernel
theorem d_Mo_turn_25 : decode zb_Mo_turn 25 = .ok (.aload_n 0, 1) := by decide +kernel
theorem d_Mo_turn_26 : decode zb_Mo_turn 26 = .ok (.getfield 181, 3) := by decide +kernel
theorem d_Mo_turn_29 : decode zb_Mo_turn 29 = .ok (.ifCond .ne 6, 3) := by decide +kernel
theorem d_Mo_turn_32 : decode zb_Mo_turn 32 = .ok (.bipush (-5), 2) := by decide +kernel
theorem d_Mo_turn_34 : decode zb_Mo_turn 34 = .ok (.ireturn, 1) := by decide +kernel
theorem d_Mo_turn_35 : decode zb_Mo_turn 35 = .ok (.iload_n 1, 1) := by decide +kernel
theorem d_Mo_turn_36 : decode zb_Mo_turn 36 = .ok (.tableswitch 43 1 3 #[28, 33, 38], 28) := by decide +kernel
theorem d_Mo_turn_64 : decode zb_Mo_turn 64 = .ok (.aload_n 0, 1) := by decide +kernel
theorem d_Mo_turn_65 : decode zb_Mo_turn 65 = .ok (.invokevirtual 136, 3) := by decide +kernel
theorem d_Mo_turn_68 : decode zb_Mo_turn 68 = .ok (.ireturn, 1) := by decide +kernel
theorem d_Mo_turn_69 : decode zb_Mo_turn 69 = .ok (.aload_n 0, 1) := by decide +kernel
theorem d_Mo_turn_70 : decode zb_Mo_turn 70 = .ok (.invokevirtual 212, 3) := by decide +kernel
theorem d_Mo_turn_73 : decode zb_Mo_turn 73 = .ok (.ireturn, 1) := by decide +kernel
theorem d_Mo_turn_74 : decode zb_Mo_turn 74 = .ok (.aload_n 0, 1) := by decide +kernel
theorem d_Mo_turn_75 : decode zb_Mo_turn 75 = .ok (.getfield 143, 3) := by decide +kernel
theorem d_Mo_turn_78 : decode zb_Mo_turn 78 = .ok (.ireturn, 1) := by decide +kernel
theorem d_Mo_turn_79 : decode zb_Mo_turn 79 = .ok (.iload_n 1, 1) := by decide +kernel
theorem d_Mo_turn_80 : decode zb_Mo_turn 80 = .ok (.bipush 10, 2) := by decide +kernel
theorem d_Mo_turn_82 : decode zb_Mo_turn 82 = .ok (.isub, 1) := by decide +kernel
theorem d_Mo_turn_83 : decode zb_Mo_turn 83 = .ok (.aload_n 0, 1) := by decide +kernel
theorem d_Mo_turn_84 : decode zb_Mo_turn 84 = .ok (.getfield 133, 3) := by decide +kernel
theorem d_Mo_turn_87 : decode zb_Mo_turn 87 = .ok (.if_icmp .ge 15, 3) := by decide +kernel
theorem d_Mo_turn_90 : decode zb_Mo_turn 90 = .ok (.aload_n 0, 1) := by decide +kernel
theorem d_Mo_turn_91 : decode zb_Mo_turn 91 = .ok (.getfield 40, 3) := by decide +kernel
theorem d_Mo_turn_94 : decode zb_Mo_turn 94 = .ok (.iload_n 1, 1) := by decide +kernel
theorem d_Mo_turn_95 : decode zb_Mo_turn 95 = .ok (.bipush 10, 2) := by decide +kernel
theorem d_Mo_turn_97 : decode zb_Mo_turn 97 = .ok (.isub, 1) := by decide +kernel
theorem d_Mo_turn_98 : decode zb_Mo_turn 98 = .ok (.iaload, 1) := by decide +kernel
theorem d_Mo_turn_99 : decode zb_Mo_turn 99 = .ok (.goto 5, 3) := by decide +kernel
theorem d_Mo_turn_102 : decode zb_Mo_turn 102 = .ok (.bipush (-5), 2) := by decide +kernel
theorem d_Mo_turn_104 : decode zb_Mo_turn 104 = .ok (.ireturn, 1) := by decide +kernel
def k_Mo_turn (x : zsM) (l1 : Int32) : Option (Int32) := (if l1 < 0 then some ((-1 : Int32)) else (k_Mo_isBetween l1 ((4 : Int32)) ((9 : Int32))).bind fun o2 => (if o2 = 0 then (if l1 = 0 then some ((x.1 22)) else (if (x.1 19) = 0 then some ((-5 : Int32)) else (if l1 = (1 : Int32) then (k_Mo_current x).bind fun o7 => some o7 else (if l1 = (2 : Int32) then (k_Mo_left x).bind fun o9 => some o9 else (if l1 = (3 : Int32) then some ((x.1 24)) else (if (l1 - (10 : Int32)) < (x.1 21) then (if zOut ((l1 - (10 : Int32))) 8 then none else some ((((x.2 10)) ((l1 - (10 : Int32))).toNatClampNeg))) else some ((-5 : Int32)))))))) else some ((-1 : Int32))))
set_option maxRecDepth 20000 in
theorem c_Mo_turn (c : zY) (q : Nat → Nat) (x : zsM) (l1 : Int32) {out : Int32} (h : k_Mo_turn x l1 = some out) : KM zy_Mo_turn zb_Mo_turn 2 (some .int) 3 c [.ref ((q 0)), .int l1] (zwM c q x) (zwM c q x) (some (.int out)) := zK_of zp_Mo rfl (Nat.le_of_ble_eq_true rfl) (zq_Mo c q _ _) (fun X hX hR => by
  show Go X (zwM c q x) [(0, .ref ((q 0))), (1, .int l1)] 0 []
  rw [k_Mo_turn] at h
  refine g_iload_n (pc := 0) hX d_Mo_turn_0 rfl 1 rfl ?_
  refine g_if_lt (pc := 1) (tgt := 14) hX d_Mo_turn_1 (by decide) h (fun c1 h => ?_) (fun c1 h => ?_)
  · refine g_iconst (pc := 14) hX d_Mo_turn_14 zc_m1 ?_
    obtain rfl := Option.some.inj h
    exact g_iret (pc := 15) hX hR d_Mo_turn_15
  · refine g_iload_n (pc := 4) hX d_Mo_turn_4 rfl 1 rfl ?_
    refine g_iconst (pc := 5) hX d_Mo_turn_5 zc_4 ?_
    refine g_bipush (pc := 6) hX d_Mo_turn_6 ze_9 ?_
    obtain ⟨o2, e2, h⟩ := zbind h
    refine g_csI (pc := 8) (st := []) hX zk_Mo_isBetween zL_Mo_84 (c_Mo_isBetween c l1 ((4 : Int32)) ((9 : Int32)) e2) rfl rfl rfl rfl rfl d_Mo_turn_8 ?_
    refine g_if_eq (pc := 11) (tgt := 16) hX d_Mo_turn_11 (by decide) h (fun c3 h => ?_) (fun c3 h => ?_)
    · refine g_iload_n (pc := 16) hX d_Mo_turn_16 rfl 1 rfl ?_
      refine g_if_ne (pc := 17) (tgt := 25) hX d_Mo_turn_17 (by decide) h (fun c4 h => ?_) (fun c4 h => ?_)
      · refine g_aload_n (pc := 25) hX d_Mo_turn_25 rfl 0 rfl ?_
        refine gf_Mo_181 (pc := 26) (v := .int ((x.1 19))) hX 0 rfl rfl d_Mo_turn_26 ?_
        refine g_if_ne (pc := 29) (tgt := 35) hX d_Mo_turn_29 (by decide) h (fun c5 h => ?_) (fun c5 h => ?_)
        · refine g_iload_n (pc := 35) hX d_Mo_turn_35 rfl 1 rfl ?_
          by_cases c6 : l1 = (1 : Int32)
          · rw [if_pos c6] at h
            refine g_tswIn (pc := 36) (tgt := 64) (off := 28) hX d_Mo_turn_36 (1 : Int32) c6 (by decide) (by decide) rfl (by decide) ?_
            refine g_aload_n (pc := 64) hX d_Mo_turn_64 rfl 0 rfl ?_
            obtain ⟨o7, e7, h⟩ := zbind h
            refine g_cvI (pc := 65) (w1 := []) (w2 := []) (st := []) (w' := (zwM c q x)) hX zk_Mo_current zs_Mo_current zL_Mo_136 (c_Mo_current c q x e7) rfl rfl rfl rfl (zself _) (zself _).symm 0 10 rfl rfl rfl d_Mo_turn_65 ?_
            obtain rfl := Option.some.inj h
            exact g_iret (pc := 68) hX hR d_Mo_turn_68
          rw [if_neg c6] at h
          by_cases c8 : l1 = (2 : Int32)
          · rw [if_pos c8] at h
            refine g_tswIn (pc := 36) (tgt := 69) (off := 33) hX d_Mo_turn_36 (2 : Int32) c8 (by decide) (by decide) rfl (by decide) ?_
            refine g_aload_n (pc := 69) hX d_Mo_turn_69 rfl 0 rfl ?_
            obtain ⟨o9, e9, h⟩ := zbind h
            refine g_cvI (pc := 70) (w1 := []) (w2 := []) (st := []) (w' := (zwM c q x)) hX zk_Mo_left zs_Mo_left zL_Mo_212 (c_Mo_left c q x e9) rfl rfl rfl rfl (zself _) (zself _).symm 0 10 rfl rfl rfl d_Mo_turn_70 ?_
            obtain rfl := Option.some.inj h
            exact g_iret (pc := 73) hX hR d_Mo_turn_73
          rw [if_neg c8] at h
          by_cases c10 : l1 = (3 : Int32)
          · rw [if_pos c10] at h
            refine g_tswIn (pc := 36) (tgt := 74) (off := 38) hX d_Mo_turn_36 (3 : Int32) c10 (by decide) (by decide) rfl (by decide) ?_
            refine g_aload_n (pc := 74) hX d_Mo_turn_74 rfl 0 rfl ?_
            refine gf_Mo_143 (pc := 75) (v := .int ((x.1 24))) hX 0 rfl rfl d_Mo_turn_75 ?_
            obtain rfl := Option.some.inj h
            exact g_iret (pc := 78) hX hR d_Mo_turn_78
          rw [if_neg c10] at h
          refine g_tswOut (pc := 36) (tgt := 79) hX d_Mo_turn_36 (by have a6 := lv_neT c6 (a := 1) (by decide); have a8 := lv_neT c8 (a := 2) (by decide); have a10 := lv_neT c10 (a := 3) (by decide); omega) (by decide) ?_
          refine g_iload_n (pc := 79) hX d_Mo_turn_79 rfl 1 rfl ?_
          refine g_bipush (pc := 80) hX d_Mo_turn_80 ze_10 ?_
          refine g_isub (pc := 82) hX d_Mo_turn_82 ?_
          refine g_aload_n (pc := 83) hX d_Mo_turn_83 rfl 0 rfl ?_
          refine gf_Mo_133 (pc := 84) (v := .int ((x.1 21))) hX 0 rfl rfl d_Mo_turn_84 ?_
          refine g_icmp_ge (pc := 87) (tgt := 102) hX d_Mo_turn_87 (by decide) h (fun c11 h => ?_) (fun c11 h => ?_)
          · refine g_bipush (pc := 102) hX d_Mo_turn_102 ze_m5 ?_
            obtain rfl := Option.some.inj h
            exact g_iret (pc := 104) hX hR d_Mo_turn_104
          · refine g_aload_n (pc := 90) hX d_Mo_turn_90 rfl 0 rfl ?_
            refine gf_Mo_40 (pc := 91) (v := .ref ((q 11))) hX 0 rfl rfl d_Mo_turn_91 ?_
            refine g_iload_n (pc := 94) hX d_Mo_turn_94 rfl 1 rfl ?_
            refine g_bipush (pc := 95) hX d_Mo_turn_95 ze_10 ?_
            refine g_isub (pc := 97) hX d_Mo_turn_97 ?_
            refine g_iald (pc := 98) (f := (x.2 10)) hX 11 rfl h d_Mo_turn_98 (fun h => ?_)
            refine g_goto (pc := 99) (tgt := 104) hX d_Mo_turn_99 (by decide) ?_
            obtain rfl := Option.some.inj h
            exact g_iret (pc := 104) hX hR d_Mo_turn_104
        · refine g_bipush (pc := 32) hX d_Mo_turn_32 ze_m5 ?_
          obtain rfl := Option.some.inj h
          exact g_iret (pc := 34) hX hR d_Mo_turn_34
      · refine g_aload_n (pc := 20) hX d_Mo_turn_20 rfl 0 rfl ?_
        refine gf_Mo_149 (pc := 21) (v := .int ((x.1 22))) hX 0 rfl rfl d_Mo_turn_21 ?_
        obtain rfl := Option.some.inj h
        exact g_iret (pc := 24) hX hR d_Mo_turn_24
    · refine g_iconst (pc := 14) hX d_Mo_turn_14 zc_m1 ?_
      obtain rfl := Option.some.inj h
      exact g_iret (pc := 15) hX hR d_Mo_turn_15)
theorem d_Mo_condition_0 : decode zb_Mo_condition 0 = .ok (.iload_n 1, 1) := by decide +kernel
theorem d_Mo_condition_1 : decode zb_Mo_condition 1 = .ok (.iconst (-1), 1) := by decide +kernel
theorem d_Mo_condition_2 : decode zb_Mo_condition 2 = .ok (.if_icmp .ne 8, 3) := by decide +kernel
theorem d_Mo_condition_5 : decode zb_Mo_condition 5 = .ok (.aload_n 0, 1) := by decide +kernel
theorem d_Mo_condition_6 : decode zb_Mo_condition 6 = .ok (.getfield 95, 3) := by decide +kernel
theorem d_Mo_condition_9 : decode zb_Mo_condition 9 = .ok (.ireturn, 1) := by decide +kernel
theorem d_Mo_condition_10 : decode zb_Mo_condition 10 = .ok (.iload_n 1, 1) := by decide +kernel
theorem d_Mo_condition_11 : decode zb_Mo_condition 11 = .ok (.iconst 0, 1) := by decide +kernel
theorem d_Mo_condition_12 : decode zb_Mo_condition 12 = .ok (.aload_n 0, 1) := by decide +kernel
theorem d_Mo_condition_13 : decode zb_Mo_condition 13 = .ok (.getfield 95, 3) := by decide +kernel
theorem d_Mo_condition_16 : decode zb_Mo_condition 16 = .ok (.iconst 1, 1) := by decide +kernel
theorem d_Mo_condition_17 : decode zb_Mo_condition 17 = .ok (.isub, 1) := by decide +kernel
theorem d_Mo_condition_18 : decode zb_Mo_condition 18 = .ok (.invokestatic 84, 3) := by decide +kernel
theorem d_Mo_condition_21 : decode zb_Mo_condition 21 = .ok (.ifCond .eq 21, 3) := by decide +kernel
theorem d_Mo_condition_24 : decode zb_Mo_condition 24 = .ok (.iload_n 2, 1) := by decide +kernel
theorem d_Mo_condition_25 : decode zb_Mo_condition 25 = .ok (.iconst 0, 1) := by decide +kernel
theorem d_Mo_condition_26 : decode zb_Mo_condition 26 = .ok (.iconst 5, 1) := by decide +kernel
theorem d_Mo_condition_27 : decode zb_Mo_condition 27 = .ok (.invokestatic 84, 3) := by decide +kernel
theorem d_Mo_condition_30 : decode zb_Mo_condition 30 = .ok (.ifCond .eq 12, 3) := by decide +kernel
theorem d_Mo_condition_33 : decode zb_Mo_condition 33 = .ok (.aload_n 0, 1) := by decide +kernel
theorem d_Mo_condition_34 : decode zb_Mo_condition 34 = .ok (.iload_n 1, 1) := by decide +kernel
theorem d_Mo_condition_35 : decode zb_Mo_condition 35 = .ok (.iload_n 2, 1) := by decide +kernel
theorem d_Mo_condition_36 : decode zb_Mo_condition 36 = .ok (.invokevirtual 98, 3) := by decide +kernel
theorem d_Mo_condition_39 : decode zb_Mo_condition 39 = .ok (.goto 4, 3) := by decide +kernel
theorem d_Mo_condition_42 : decode zb_Mo_condition 42 = .ok (.iconst (-1), 1) := by decide +kernel
theorem d_Mo_condition_43 : decode zb_Mo_condition 43 = .ok (.ireturn, 1) := by decide +kernel
def k_Mo_condition (x : zsM) (l1 : Int32) (l2 : Int32) : Option (Int32) := (if l1 = (-1 : Int32) then some ((x.1 16)) else (k_Mo_isBetween l1 ((0 : Int32)) (((x.1 16) - (1 : Int32)))).bind fun o2 => (if o2 = 0 then some ((-1 : Int32)) else (k_Mo_isBetween l2 ((0 : Int32)) ((5 : Int32))).bind fun o4 => (if o4 = 0 then some ((-1 : Int32)) else (k_Mo_partOf x l1 l2).bind fun o6 => some o6)))
set_option maxRecDepth 20000 in
theorem c_Mo_condition (c : zY) (q : Nat → Nat) (x : zsM) (l1 : Int32) (l2 : Int32) {out : Int32} (h : k_Mo_condition x l1 l2 = some out) : KM zy_Mo_condition zb_Mo_condition 3 (some .int) 1 c [.ref ((q 0)), .int l1, .int l2] (zwM c q x) (zwM c q x) (some (.int out)) := zK_of zp_Mo rfl (Nat.le_of_ble_eq_true rfl) (zq_Mo c q _ _) (fun X hX hR => by
  show Go X (zwM c q x) [(0, .ref ((q 0))), (1, .int l1), (2, .int l2)] 0 []
  rw [k_Mo_condition] at h
  refine g_iload_n (pc := 0) hX d_Mo_condition_0 rfl 1 rfl ?_
  refine g_iconst (pc := 1) hX d_Mo_condition_1 zc_m1 ?_
  refine g_icmp_ne (pc := 2) (tgt := 10) hX d_Mo_condition_2 (by decide) h (fun c1 h => ?_) (fun c1 h => ?_)
  · refine g_iload_n (pc := 10) hX d_Mo_condition_10 rfl 1 rfl ?_
    refine g_iconst (pc := 11) hX d_Mo_condition_11 zc_0 ?_
    refine g_aload_n (pc := 12) hX d_Mo_condition_12 rfl 0 rfl ?_
    refine gf_Mo_95 (pc := 13) (v := .int ((x.1 16))) hX 0 rfl rfl d_Mo_condition_13 ?_
    refine g_iconst (pc := 16) hX d_Mo_condition_16 zc_1 ?_
    refine g_isub (pc := 17) hX d_Mo_condition_17 ?_
    obtain ⟨o2, e2, h⟩ := zbind h
    refine g_csI (pc := 18) (st := []) hX zk_Mo_isBetween zL_Mo_84 (c_Mo_isBetween c l1 ((0 : Int32)) (((x.1 16) - (1 : Int32))) e2) rfl rfl rfl rfl rfl d_Mo_condition_18 ?_
    refine g_if_eq (pc := 21) (tgt := 42) hX d_Mo_condition_21 (by decide) h (fun c3 h => ?_) (fun c3 h => ?_)
    · refine g_iconst (pc := 42) hX d_Mo_condition_42 zc_m1 ?_
      obtain rfl := Option.some.inj h
      exact g_iret (pc := 43) hX hR d_Mo_condition_43
    · refine g_iload_n (pc := 24) hX d_Mo_condition_24 rfl 2 rfl ?_
      refine g_iconst (pc := 25) hX d_Mo_condition_25 zc_0 ?_
      refine g_iconst (pc := 26) hX d_Mo_condition_26 zc_5 ?_
      obtain ⟨o4, e4, h⟩ := zbind h
      refine g_csI (pc := 27) (st := []) hX zk_Mo_isBetween zL_Mo_84 (c_Mo_isBetween c l2 ((0 : Int32)) ((5 : Int32)) e4) rfl rfl rfl rfl rfl d_Mo_condition_27 ?_
      refine g_if_eq (pc := 30) (tgt := 42) hX d_Mo_condition_30 (by decide) h (fun c5 h => ?_) (fun c5 h => ?_)
      · refine g_iconst (pc := 42) hX d_Mo_condition_42 zc_m1 ?_
        obtain rfl := Option.some.inj h
        exact g_iret (pc := 43) hX hR d_Mo_condition_43
      · refine g_aload_n (pc := 33) hX d_Mo_condition_33 rfl 0 rfl ?_
        refine g_iload_n (pc := 34) hX d_Mo_condition_34 rfl 1 rfl ?_
        refine g_iload_n (pc := 35) hX d_Mo_condition_35 rfl 2 rfl ?_
        obtain ⟨o6, e6, h⟩ := zbind h
        refine g_cvI (pc := 36) (w1 := []) (w2 := []) (st := []) (w' := (zwM c q x)) hX zk_Mo_partOf zs_Mo_partOf zL_Mo_98 (c_Mo_partOf c q x l1 l2 e6) rfl rfl rfl rfl (zself _) (zself _).symm 0 10 rfl rfl rfl d_Mo_condition_36 ?_
        refine g_goto (pc := 39) (tgt := 43) hX d_Mo_condition_39 (by decide) ?_
        obtain rfl := Option.some.inj h
        exact g_iret (pc := 43) hX hR d_Mo_condition_43
  · refine g_aload_n (pc := 5) hX d_Mo_condition_5 rfl 0 rfl ?_
    refine gf_Mo_95 (pc := 6) (v := .int ((x.1 16))) hX 0 rfl rfl d_Mo_condition_6 ?_
    obtain rfl := Option.some.inj h
    exact g_iret (pc := 9) hX hR d_Mo_condition_9)
theorem d_Mo_entryPart_0 : decode zb_Mo_entryPart 0 = .ok (.iload_n 2, 1) := by decide +kernel
theorem d_Mo_entryPart_1 : decode zb_Mo_entryPart 1 = .ok (.ifCond .ne 19, 3) := by decide +kernel
theorem d_Mo_entryPart_4 : decode zb_Mo_entryPart 4 = .ok (.aload_n 0, 1) := by decide +kernel
theorem d_Mo_entryPart_5 : decode zb_Mo_entryPart 5 = .ok (.getfield 47, 3) := by decide +kernel
theorem d_Mo_entryPart_8 : decode zb_Mo_entryPart 8 = .ok (.iload_n 1, 1) := by decide +kernel
theorem d_Mo_entryPart_9 : decode zb_Mo_entryPart 9 = .ok (.iaload, 1) := by decide +kernel
theorem d_Mo_entryPart_10 : decode zb_Mo_entryPart 10 = .ok (.sipush 1000, 3) := by decide +kernel
theorem d_Mo_entryPart_13 : decode zb_Mo_entryPart 13 = .ok (.idiv, 1) := by decide +kernel
theorem d_Mo_entryPart_14 : decode zb_Mo_entryPart 14 = .ok (.bipush 8, 2) := by decide +kernel
theorem d_Mo_entryPart_16 : decode zb_Mo_entryPart 16 = .ok (.idiv, 1) := by decide +kernel
theorem d_Mo_entryPart_17 : decode zb_Mo_entryPart 17 = .ok (.goto 34, 3) := by decide +kernel
theorem d_Mo_entryPart_20 : decode zb_Mo_entryPart 20 = .ok (.iload_n 2, 1) := by decide +kernel
theorem d_Mo_entryPart_21 : decode zb_Mo_entryPart 21 = .ok (.iconst 1, 1) := by decide +kernel
theorem d_Mo_entryPart_22 : decode zb_Mo_entryPart 22 = .ok (.if_icmp .ne 19, 3) := by decide +kernel
theorem d_Mo_entryPart_25 : decode zb_Mo_entryPart 25 = .ok (.aload_n 0, 1) := by decide +kernel
theorem d_Mo_entryPart_26 : decode zb_Mo_entryPart 26 = .ok (.getfield 47, 3) := by decide +kernel
theorem d_Mo_entryPart_29 : decode zb_Mo_entryPart 29 = .ok (.iload_n 1, 1) := by decide +kernel
theorem d_Mo_entryPart_30 : decode zb_Mo_entryPart 30 = .ok (.iaload, 1) := by decide +kernel
theorem d_Mo_entryPart_31 : decode zb_Mo_entryPart 31 = .ok (.sipush 1000, 3) := by decide +kernel
theorem d_Mo_entryPart_34 : decode zb_Mo_entryPart 34 = .ok (.idiv, 1) := by decide +kernel
theorem d_Mo_entryPart_35 : decode zb_Mo_entryPart 35 = .ok (.bipush 8, 2) := by decide +kernel
theorem d_Mo_entryPart_37 : decode zb_Mo_entryPart 37 = .ok (.irem, 1) := by decide +kernel
theorem d_Mo_entryPart_38 : decode zb_Mo_entryPart 38 = .ok (.goto 13, 3) := by decide +kernel
theorem d_Mo_entryPart_41 : decode zb_Mo_entryPart 41 = .ok (.aload_n 0, 1) := by decide +kernel
theorem d_Mo_entryPart_42 : decode zb_Mo_entryPart 42 = .ok (.getfield 47, 3) := by decide +kernel
theorem d_Mo_entryPart_45 : decode zb_Mo_entryPart 45 = .ok (.iload_n 1, 1) := by decide +kernel
theorem d_Mo_entryPart_46 : decode zb_Mo_entryPart 46 = .ok (.iaload, 1) := by decide +kernel
theorem d_Mo_entryPart_47 : decode zb_Mo_entryPart 47 = .ok (.sipush 1000, 3) := by decide +kernel
theorem d_Mo_entryPart_50 : decode zb_Mo_entryPart 50 = .ok (.irem, 1) := by decide +kernel
theorem d_Mo_entryPart_51 : decode zb_Mo_entryPart 51 = .ok (.ireturn, 1) := by decide +kernel
def k_Mo_entryPart (x : zsM) (l1 : Int32) (l2 : Int32) : Option (Int32) := (if l2 = 0 then (if zOut l1 300 then none else some ((((((x.2 13)) l1.toNatClampNeg) / (1000 : Int32)) / (8 : Int32)))) else (if l2 = (1 : Int32) then (if zOut l1 300 then none else some ((zrem (((((x.2 13)) l1.toNatClampNeg) / (1000 : Int32))) (8 : Int32)))) else (if zOut l1 300 then none else some ((zrem ((((x.2 13)) l1.toNatClampNeg)) (1000 : Int32))))))
set_option maxRecDepth 20000 in
theorem c_Mo_entryPart (c : zY) (q : Nat → Nat) (x : zsM) (l1 : Int32) (l2 : Int32) {out : Int32} (h : k_Mo_entryPart x l1 l2 = some out) : KM zy_Mo_entryPart zb_Mo_entryPart 3 (some .int) 0 c [.ref ((q 0)), .int l1, .int l2] (zwM c q x) (zwM c q x) (some (.int out)) := zK_of zp_Mo rfl (Nat.le_of_ble_eq_true rfl) (zq_Mo c q _ _) (fun X hX hR => by
  show Go X (zwM c q x) [(0, .ref ((q 0))), (1, .int l1), (2, .int l2)] 0 []
  rw [k_Mo_entryPart] at h
  refine g_iload_n (pc := 0) hX d_Mo_entryPart_0 rfl 2 rfl ?_
  refine g_if_ne (pc := 1) (tgt := 20) hX d_Mo_entryPart_1 (by decide) h (fun c1 h => ?_) (fun c1 h => ?_)
  · refine g_iload_n (pc := 20) hX d_Mo_entryPart_20 rfl 2 rfl ?_
    refine g_iconst (pc := 21) hX d_Mo_entryPart_21 zc_1 ?_
    refine g_icmp_ne (pc := 22) (tgt := 41) hX d_Mo_entryPart_22 (by decide) h (fun c2 h => ?_) (fun c2 h => ?_)
    · refine g_aload_n (pc := 41) hX d_Mo_entryPart_41 rfl 0 rfl ?_
      refine gf_Mo_47 (pc := 42) (v := .ref ((q 12))) hX 0 rfl rfl d_Mo_entryPart_42 ?_
      refine g_iload_n (pc := 45) hX d_Mo_entryPart_45 rfl 1 rfl ?_
      refine g_iald (pc := 46) (f := (x.2 13)) hX 12 rfl h d_Mo_entryPart_46 (fun h => ?_)
      refine g_sipush (pc := 47) hX d_Mo_entryPart_47 zh_1000 ?_
      refine g_irem (pc := 50) hX d_Mo_entryPart_50 (by decide) ?_
      obtain rfl := Option.some.inj h
      exact g_iret (pc := 51) hX hR d_Mo_entryPart_51
    · refine g_aload_n (pc := 25) hX d_Mo_entryPart_25 rfl 0 rfl ?_
      refine gf_Mo_47 (pc := 26) (v := .ref ((q 12))) hX 0 rfl rfl d_Mo_entryPart_26 ?_
      refine g_iload_n (pc := 29) hX d_Mo_entryPart_29 rfl 1 rfl ?_
      refine g_iald (pc := 30) (f := (x.2 13)) hX 12 rfl h d_Mo_entryPart_30 (fun h => ?_)
      refine g_sipush (pc := 31) hX d_Mo_entryPart_31 zh_1000 ?_
      refine g_idiv (pc := 34) hX d_Mo_entryPart_34 (by decide) ?_
      refine g_bipush (pc := 35) hX d_Mo_entryPart_35 ze_8 ?_
      refine g_irem (pc := 37) hX d_Mo_entryPart_37 (by decide) ?_
      refine g_goto (pc := 38) (tgt := 51) hX d_Mo_entryPart_38 (by decide) ?_
      obtain rfl := Option.some.inj h
      exact g_iret (pc := 51) hX hR d_Mo_entryPart_51
  · refine g_aload_n (pc := 4) hX d_Mo_entryPart_4 rfl 0 rfl ?_
    refine gf_Mo_47 (pc := 5) (v := .ref ((q 12))) hX 0 rfl rfl d_Mo_entryPart_5 ?_
    refine g_iload_n (pc := 8) hX d_Mo_entryPart_8 rfl 1 rfl ?_
    refine g_iald (pc := 9) (f := (x.2 13)) hX 12 rfl h d_Mo_entryPart_9 (fun h => ?_)
    refine g_sipush (pc := 10) hX d_Mo_entryPart_10 zh_1000 ?_
    refine g_idiv (pc := 13) hX d_Mo_entryPart_13 (by decide) ?_
    refine g_bipush (pc := 14) hX d_Mo_entryPart_14 ze_8 ?_
    refine g_idiv (pc := 16) hX d_Mo_entryPart_16 (by decide) ?_
    refine g_goto (pc := 17) (tgt := 51) hX d_Mo_entryPart_17 (by decide) ?_
    obtain rfl := Option.some.inj h
    exact g_iret (pc := 51) hX hR d_Mo_entryPart_51)
theorem d_Mo_entry_0 : decode zb_Mo_entry 0 = .ok (.iload_n 1, 1) := by decide +kernel
theorem d_Mo_entry_1 : decode zb_Mo_entry 1 = .ok (.iconst (-1), 1) := by decide +kernel
theorem d_Mo_entry_2 : decode zb_Mo_entry 2 = .ok (.if_icmp .ne 8, 3) := by decide +kernel
theorem d_Mo_entry_5 : decode zb_Mo_entry 5 = .ok (.aload_n 0, 1) := by decide +kernel
theorem d_Mo_entry_6 : decode zb_Mo_entry 6 = .ok (.getfield 92, 3) := by decide +kernel
theorem d_Mo_entry_9 : decode zb_Mo_entry 9 = .ok (.ireturn, 1) := by decide +kernel
theorem d_Mo_entry_10 : decode zb_Mo_entry 10 = .ok (.aload_n 0, 1) := by decide +kernel
theorem d_Mo_entry_11 : decode zb_Mo_entry 11 = .ok (.getfield 92, 3) := by decide +kernel
theorem d_Mo_entry_14 : decode zb_Mo_entry 14 = .ok (.sipush 300, 3) := by decide +kernel
theorem d_Mo_entry_17 : decode zb_Mo_entry 17 = .ok (.if_icmp .ge 10, 3) := by decide +kernel
theorem d_Mo_entry_20 : decode zb_Mo_entry 20 = .ok (.aload_n 0, 1) := by decide +kernel
theorem d_Mo_entry_21 : decode zb_Mo_entry 21 = .ok (.getfield 92, 3) := by decide +kernel
theorem d_Mo_entry_24 : decode zb_Mo_entry 24 = .ok (.goto 6, 3) := by decide +kernel
theorem d_Mo_entry_27 : decode zb_Mo_entry 27 = .ok (.sipush 300, 3) := by decide +kernel
theorem d_Mo_entry_30 : decode zb_Mo_entry 30 = .ok (.istore_n 3, 1) := by decide +kernel
theorem d_Mo_entry_31 : decode zb_Mo_entry 31 = .ok (.iload_n 1, 1) := by decide +kernel
theorem d_Mo_entry_32 : decode zb_Mo_entry 32 = .ok (.iconst 0, 1) := by decide +kernel
theorem d_Mo_entry_33 : decode zb_Mo_entry 33 = .ok (.iload_n 3, 1) := by decide +kernel
theorem d_Mo_entry_34 : decode zb_Mo_entry 34 = .ok (.iconst 1, 1) := by decide +kernel
theorem d_Mo_entry_35 : decode zb_Mo_entry 35 = .ok (.isub, 1) := by decide +kernel
theorem d_Mo_entry_36 : decode zb_Mo_entry 36 = .ok (.invokestatic 84, 3) := by decide +kernel
theorem d_Mo_entry_39 : decode zb_Mo_entry 39 = .ok (.ifCond .eq 21, 3) := by decide +kernel
theorem d_Mo_entry_42 : decode zb_Mo_entry 42 = .ok (.iload_n 2, 1) := by decide +kernel
theorem d_Mo_entry_43 : decode zb_Mo_entry 43 = .ok (.iconst 0, 1) := by decide +kernel
theorem d_Mo_entry_44 : decode zb_Mo_entry 44 = .ok (.iconst 2, 1) := by decide +kernel
theorem d_Mo_entry_45 : decode zb_Mo_entry 45 = .ok (.invokestatic 84, 3) := by decide +kernel
theorem d_Mo_entry_48 : decode zb_Mo_entry 48 = .ok (.ifCond .eq 12, 3) := by decide +kernel
theorem d_Mo_entry_51 : decode zb_Mo_entry 51 = .ok (.aload_n 0, 1) := by decide +kernel
theorem d_Mo_entry_52 : decode zb_Mo_entry 52 = .ok (.iload_n 1, 1) := by decide +kernel
theorem d_Mo_entry_53 : decode zb_Mo_entry 53 = .ok (.iload_n 2, 1) := by decide +kernel
theorem d_Mo_entry_54 : decode zb_Mo_entry 54 = .ok (.invokevirtual 289, 3) := by decide +kernel
theorem d_Mo_entry_57 : decode zb_Mo_entry 57 = .ok (.goto 4, 3) := by decide +kernel
theorem d_Mo_entry_60 : decode zb_Mo_entry 60 = .ok (.iconst (-1), 1) := by decide +kernel
theorem d_Mo_entry_61 : decode zb_Mo_entry 61 = .ok (.ireturn, 1) := by decide +kernel
def k_Mo_entry_30 (x : zsM) (l1 : Int32) (l2 : Int32) (s0 : Int32) : Option (Int32) := (k_Mo_isBetween l1 ((0 : Int32)) ((s0 - (1 : Int32)))).bind fun o3 => (if o3 = 0 then some ((-1 : Int32)) else (k_Mo_isBetween l2 ((0 : Int32)) ((2 : Int32))).bind fun o5 => (if o5 = 0 then some ((-1 : Int32)) else (k_Mo_entryPart x l1 l2).bind fun o7 => some o7))
set_option maxRecDepth 20000 in
theorem w_Mo_entry_30 {X : zX} {c : zY} {q : Nat → Nat} {x : zsM} {l1 : Int32} {l2 : Int32} {out : Int32} (hX : Ok X zr_Mo zb_Mo_entry 4 1 c) (hR : Rt X (some .int) (some (.int out)) (zwM c q x)) : ∀ (s0 : Int32), k_Mo_entry_30 x l1 l2 s0 = some out → Go X (zwM c q x) [(0, .ref ((q 0))), (1, .int l1), (2, .int l2)] 30 [.int s0] := by
  intro s0 h
  rw [k_Mo_entry_30] at h
  refine g_istore_n (pc := 30) (L' := [(3, .int s0), (0, .ref ((q 0))), (1, .int l1), (2, .int l2)]) hX d_Mo_entry_30 rfl rfl rfl ?_
  refine g_iload_n (pc := 31) hX d_Mo_entry_31 rfl 2 rfl ?_
  refine g_iconst (pc := 32) hX d_Mo_entry_32 zc_0 ?_
  refine g_iload_n (pc := 33) hX d_Mo_entry_33 rfl 0 rfl ?_
  refine g_iconst (pc := 34) hX d_Mo_entry_34 zc_1 ?_
  refine g_isub (pc := 35) hX d_Mo_entry_35 ?_
  obtain ⟨o3, e3, h⟩ := zbind h
  refine g_csI (pc := 36) (st := []) hX zk_Mo_isBetween zL_Mo_84 (c_Mo_isBetween c l1 ((0 : Int32)) ((s0 - (1 : Int32))) e3) rfl rfl rfl rfl rfl d_Mo_entry_36 ?_
  refine g_if_eq (pc := 39) (tgt := 60) hX d_Mo_entry_39 (by decide) h (fun c4 h => ?_) (fun c4 h => ?_)
  · refine g_iconst (pc := 60) hX d_Mo_entry_60 zc_m1 ?_
    obtain rfl := Option.some.inj h
    exact g_iret (pc := 61) hX hR d_Mo_entry_61
  · refine g_iload_n (pc := 42) hX d_Mo_entry_42 rfl 3 rfl ?_
    refine g_iconst (pc := 43) hX d_Mo_entry_43 zc_0 ?_
    refine g_iconst (pc := 44) hX d_Mo_entry_44 zc_2 ?_
    obtain ⟨o5, e5, h⟩ := zbind h
    refine g_csI (pc := 45) (st := []) hX zk_Mo_isBetween zL_Mo_84 (c_Mo_isBetween c l2 ((0 : Int32)) ((2 : Int32)) e5) rfl rfl rfl rfl rfl d_Mo_entry_45 ?_
    refine g_if_eq (pc := 48) (tgt := 60) hX d_Mo_entry_48 (by decide) h (fun c6 h => ?_) (fun c6 h => ?_)
    · refine g_iconst (pc := 60) hX d_Mo_entry_60 zc_m1 ?_
      obtain rfl := Option.some.inj h
      exact g_iret (pc := 61) hX hR d_Mo_entry_61
    · refine g_aload_n (pc := 51) hX d_Mo_entry_51 rfl 1 rfl ?_
      refine g_iload_n (pc := 52) hX d_Mo_entry_52 rfl 2 rfl ?_
      refine g_iload_n (pc := 53) hX d_Mo_entry_53 rfl 3 rfl ?_
      obtain ⟨o7, e7, h⟩ := zbind h
      refine g_cvI (pc := 54) (w1 := []) (w2 := []) (st := []) (w' := (zwM c q x)) hX zk_Mo_entryPart zs_Mo_entryPart zL_Mo_289 (c_Mo_entryPart c q x l1 l2 e7) rfl rfl rfl rfl (zself _) (zself _).symm 0 10 rfl rfl rfl d_Mo_entry_54 ?_
      refine g_goto (pc := 57) (tgt := 61) hX d_Mo_entry_57 (by decide) ?_
      obtain rfl := Option.some.inj h
      exact g_iret (pc := 61) hX hR d_Mo_entry_61
def k_Mo_entry (x : zsM) (l1 : Int32) (l2 : Int32) : Option (Int32) := (if l1 = (-1 : Int32) then some ((x.1 14)) else (if (x.1 14) < (300 : Int32) then k_Mo_entry_30 x l1 l2 ((x.1 14)) else k_Mo_entry_30 x l1 l2 ((300 : Int32))))
set_option maxRecDepth 20000 in
theorem c_Mo_entry (c : zY) (q : Nat → Nat) (x : zsM) (l1 : Int32) (l2 : Int32) {out : Int32} (h : k_Mo_entry x l1 l2 = some out) : KM zy_Mo_entry zb_Mo_entry 4 (some .int) 1 c [.ref ((q 0)), .int l1, .int l2] (zwM c q x) (zwM c q x) (some (.int out)) := zK_of zp_Mo rfl (Nat.le_of_ble_eq_true rfl) (zq_Mo c q _ _) (fun X hX hR => by
  show Go X (zwM c q x) [(0, .ref ((q 0))), (1, .int l1), (2, .int l2)] 0 []
  rw [k_Mo_entry] at h
  refine g_iload_n (pc := 0) hX d_Mo_entry_0 rfl 1 rfl ?_
  refine g_iconst (pc := 1) hX d_Mo_entry_1 zc_m1 ?_
  refine g_icmp_ne (pc := 2) (tgt := 10) hX d_Mo_entry_2 (by decide) h (fun c1 h => ?_) (fun c1 h => ?_)
  · refine g_aload_n (pc := 10) hX d_Mo_entry_10 rfl 0 rfl ?_
    refine gf_Mo_92 (pc := 11) (v := .int ((x.1 14))) hX 0 rfl rfl d_Mo_entry_11 ?_
    refine g_sipush (pc := 14) hX d_Mo_entry_14 zh_300 ?_
    refine g_icmp_ge (pc := 17) (tgt := 27) hX d_Mo_entry_17 (by decide) h (fun c2 h => ?_) (fun c2 h => ?_)
    · refine g_sipush (pc := 27) hX d_Mo_entry_27 zh_300 ?_
      exact w_Mo_entry_30 hX hR _ h
    · refine g_aload_n (pc := 20) hX d_Mo_entry_20 rfl 0 rfl ?_
      refine gf_Mo_92 (pc := 21) (v := .int ((x.1 14))) hX 0 rfl rfl d_Mo_entry_21 ?_
      refine g_goto (pc := 24) (tgt := 30) hX d_Mo_entry_24 (by decide) ?_
      exact w_Mo_entry_30 hX hR _ h
  · refine g_aload_n (pc := 5) hX d_Mo_entry_5 rfl 0 rfl ?_
    refine gf_Mo_92 (pc := 6) (v := .int ((x.1 14))) hX 0 rfl rfl d_Mo_entry_6 ?_
    obtain rfl := Option.some.inj h
    exact g_iret (pc := 9) hX hR d_Mo_entry_9)
theorem d_Mo_replays_0 : decode zb_Mo_replays 0 = .ok (.iload_n 1, 1) := by decide +kernel
theorem d_Mo_replays_1 : decode zb_Mo_replays 1 = .ok (.tableswitch 133 0 4 #[35, 63, 76, 107, 119], 35) := by decide +kernel
theorem d_Mo_replays_36 : decode zb_Mo_replays 36 = .ok (.iload_n 2, 1) := by decide +kernel
theorem d_Mo_replays_37 : decode zb_Mo_replays 37 = .ok (.ifCond .eq 8, 3) := by decide +kernel
theorem d_Mo_replays_40 : decode zb_Mo_replays 40 = .ok (.iload_n 2, 1) := by decide +kernel
theorem d_Mo_replays_41 : decode zb_Mo_replays 41 = .ok (.iconst 2, 1) := by decide +kernel
theorem d_Mo_replays_42 : decode zb_Mo_replays 42 = .ok (.if_icmp .ne 9, 3) := by decide +kernel
theorem d_Mo_replays_45 : decode zb_Mo_replays 45 = .ok (.iload_n 0, 1) := by decide +kernel
theorem d_Mo_replays_46 : decode zb_Mo_replays 46 = .ok (.iload_n 3, 1) := by decide +kernel
theorem d_Mo_replays_47 : decode zb_Mo_replays 47 = .ok (.iadd, 1) := by decide +kernel
theorem d_Mo_replays_48 : decode zb_Mo_replays 48 = .ok (.goto 15, 3) := by decide +kernel
theorem d_Mo_replays_51 : decode zb_Mo_replays 51 = .ok (.iload_n 2, 1) := by decide +kernel
theorem d_Mo_replays_52 : decode zb_Mo_replays 52 = .ok (.iconst 1, 1) := by decide +kernel
theorem d_Mo_replays_53 : decode zb_Mo_replays 53 = .ok (.if_icmp .ne 9, 3) := by decide +kernel
theorem d_Mo_replays_56 : decode zb_Mo_replays 56 = .ok (.iload_n 0, 1) := by decide +kernel
theorem d_Mo_replays_57 : decode zb_Mo_replays 57 = .ok (.iload_n 3, 1) := by decide +kernel
theorem d_Mo_replays_58 : decode zb_Mo_replays 58 = .ok (.isub, 1) := by decide +kernel
theorem d_Mo_replays_59 : decode zb_Mo_replays 59 = .ok (.goto 4, 3) := by decide +kernel
theorem d_Mo_replays_62 : decode zb_Mo_replays 62 = .ok (.iload_n 0, 1) := by decide +kernel
theorem d_Mo_replays_63 : decode zb_Mo_replays 63 = .ok (.ireturn, 1) := by decide +kernel
theorem d_Mo_replays_64 : decode zb_Mo_replays 64 = .ok (.iload_n 2, 1) := by decide +kernel
theorem d_Mo_replays_65 : decode zb_Mo_replays 65 = .ok (.iconst 1, 1) := by decide +kernel
theorem d_Mo_replays_66 : decode zb_Mo_replays 66 = .ok (.if_icmp .ne 9, 3) := by decide +kernel
theorem d_Mo_replays_69 : decode zb_Mo_replays 69 = .ok (.iload_n 0, 1) := by decide +kernel
theorem d_Mo_replays_70 : decode zb_Mo_replays 70 = .ok (.iconst 1, 1) := by decide +kernel
theorem d_Mo_replays_71 : decode zb_Mo_replays 71 = .ok (.iadd, 1) := by decide +kernel
theorem d_Mo_replays_72 : decode zb_Mo_replays 72 = .ok (.goto 4, 3) := by decide +kernel
theorem d_Mo_replays_75 : decode zb_Mo_replays 75 = .ok (.iload_n 0, 1) := by decide +kernel
theorem d_Mo_replays_76 : decode zb_Mo_replays 76 = .ok (.ireturn, 1) := by decide +kernel
theorem d_Mo_replays_77 : decode zb_Mo_replays 77 = .ok (.iload_n 2, 1) := by decide +kernel
theorem d_Mo_replays_78 : decode zb_Mo_replays 78 = .ok (.iconst 5, 1) := by decide +kernel
theorem d_Mo_replays_79 : decode zb_Mo_replays 79 = .ok (.if_icmp .ne 12, 3) := by decide +kernel
theorem d_Mo_replays_82 : decode zb_Mo_replays 82 = .ok (.iload_n 0, 1) := by decide +kernel
theorem d_Mo_replays_83 : decode zb_Mo_replays 83 = .ok (.iload_n 3, 1) := by decide +kernel
theorem d_Mo_replays_84 : decode zb_Mo_replays 84 = .ok (.bipush 10, 2) := by decide +kernel
theorem d_Mo_replays_86 : decode zb_Mo_replays 86 = .ok (.irem, 1) := by decide +kernel
theorem d_Mo_replays_87 : decode zb_Mo_replays 87 = .ok (.iadd, 1) := by decide +kernel
theorem d_Mo_replays_88 : decode zb_Mo_replays 88 = .ok (.goto 19, 3) := by decide +kernel
theorem d_Mo_replays_91 : decode zb_Mo_replays 91 = .ok (.iload_n 2, 1) := by decide +kernel
theorem d_Mo_replays_92 : decode zb_Mo_replays 92 = .ok (.bipush 6, 2) := by decide +kernel
theorem d_Mo_replays_94 : decode zb_Mo_replays 94 = .ok (.if_icmp .ne 12, 3) := by decide +kernel
theorem d_Mo_replays_97 : decode zb_Mo_replays 97 = .ok (.iload_n 0, 1) := by decide +kernel
theorem d_Mo_replays_98 : decode zb_Mo_replays 98 = .ok (.iload_n 3, 1) := by decide +kernel
theorem d_Mo_replays_99 : decode zb_Mo_replays 99 = .ok (.bipush 10, 2) := by decide +kernel
theorem d_Mo_replays_101 : decode zb_Mo_replays 101 = .ok (.irem, 1) := by decide +kernel
theorem d_Mo_replays_102 : decode zb_Mo_replays 102 = .ok (.isub, 1) := by decide +kernel
theorem d_Mo_replays_103 : decode zb_Mo_replays 103 = .ok (.goto 4, 3) := by decide +kernel
theorem d_Mo_replays_106 : decode zb_Mo_replays 106 = .ok (.iload_n 0, 1) := by decide +kernel
theorem d_Mo_replays_107 : decode zb_Mo_replays 107 = .ok (.ireturn, 1) := by decide +kernel
theorem d_Mo_replays_108 : decode zb_Mo_replays 108 = .ok (.iload_n 2, 1) := by decide +kernel
theorem d_Mo_replays_109 : decode zb_Mo_replays 109 = .ok (.bipush 7, 2) := by decide +kernel
theorem d_Mo_replays_111 : decode zb_Mo_replays 111 = .ok (.if_icmp .ne 7, 3) := by decide +kernel
theorem d_Mo_replays_114 : decode zb_Mo_replays 114 = .ok (.iload_n 3, 1) := by decide +kernel
theorem d_Mo_replays_115 : decode zb_Mo_replays 115 = .ok (.goto 4, 3) := by decide +kernel
theorem d_Mo_replays_118 : decode zb_Mo_replays 118 = .ok (.iload_n 0, 1) := by decide +kernel
theorem d_Mo_replays_119 : decode zb_Mo_replays 119 = .ok (.ireturn, 1) := by decide +kernel
theorem d_Mo_replays_120 : decode zb_Mo_replays 120 = .ok (.iload_n 2, 1) := by decide +kernel
theorem d_Mo_replays_121 : decode zb_Mo_replays 121 = .ok (.bipush 8, 2) := by decide +kernel
theorem d_Mo_replays_123 : decode zb_Mo_replays 123 = .ok (.if_icmp .ne 9, 3) := by decide +kernel
theorem d_Mo_replays_126 : decode zb_Mo_replays 126 = .ok (.iload_n 0, 1) := by decide +kernel
theorem d_Mo_replays_127 : decode zb_Mo_replays 127 = .ok (.iconst 1, 1) := by decide +kernel
theorem d_Mo_replays_128 : decode zb_Mo_replays 128 = .ok (.iadd, 1) := by decide +kernel
theorem d_Mo_replays_129 : decode zb_Mo_replays 129 = .ok (.goto 4, 3) := by decide +kernel
theorem d_Mo_replays_132 : decode zb_Mo_replays 132 = .ok (.iload_n 0, 1) := by decide +kernel
theorem d_Mo_replays_133 : decode zb_Mo_replays 133 = .ok (.ireturn, 1) := by decide +kernel
theorem d_Mo_replays_134 : decode zb_Mo_replays 134 = .ok (.iload_n 2, 1) := by decide +kernel
theorem d_Mo_replays_135 : decode zb_Mo_replays 135 = .ok (.iconst 3, 1) := by decide +kernel
theorem d_Mo_replays_136 : decode zb_Mo_replays 136 = .ok (.if_icmp .ne 9, 3) := by decide +kernel
theorem d_Mo_replays_139 : decode zb_Mo_replays 139 = .ok (.iload_n 0, 1) := by decide +kernel
theorem d_Mo_replays_140 : decode zb_Mo_replays 140 = .ok (.iconst 1, 1) := by decide +kernel
theorem d_Mo_replays_141 : decode zb_Mo_replays 141 = .ok (.iadd, 1) := by decide +kernel
theorem d_Mo_replays_142 : decode zb_Mo_replays 142 = .ok (.goto 4, 3) := by decide +kernel
theorem d_Mo_replays_145 : decode zb_Mo_replays 145 = .ok (.iload_n 0, 1) := by decide +kernel
theorem d_Mo_replays_146 : decode zb_Mo_replays 146 = .ok (.ireturn, 1) := by decide +kernel
def k_Mo_replays (l0 : Int32) (l1 : Int32) (l2 : Int32) (l3 : Int32) : Option (Int32) := (if l1 = (0 : Int32) then (if l2 = 0 then some ((l0 + l3)) else (if l2 = (2 : Int32) then some ((l0 + l3)) else (if l2 = (1 : Int32) then some ((l0 - l3)) else some l0))) else (if l1 = (1 : Int32) then (if l2 = (1 : Int32) then some ((l0 + (1 : Int32))) else some l0) else (if l1 = (2 : Int32) then (if l2 = (5 : Int32) then some ((l0 + (zrem l3 (10 : Int32)))) else (if l2 = (6 : Int32) then some ((l0 - (zrem l3 (10 : Int32)))) else some l0)) else (if l1 = (3 : Int32) then (if l2 = (7 : Int32) then some l3 else some l0) else (if l1 = (4 : Int32) then (if l2 = (8 : Int32) then some ((l0 + (1 : Int32))) else some l0) else (if l2 = (3 : Int32) then some ((l0 + (1 : Int32))) else some l0))))))
set_option maxRecDepth 20000 in
theorem c_Mo_replays (c : zY) (l0 : Int32) (l1 : Int32) (l2 : Int32) (l3 : Int32) {out : Int32} (h : k_Mo_replays l0 l1 l2 l3 = some out) : KM zy_Mo_replays zb_Mo_replays 4 (some .int) 0 c [.int l0, .int l1, .int l2, .int l3] [] [] (some (.int out)) := zK_of zp_Mo rfl (Nat.le_of_ble_eq_true rfl) rfl (fun X hX hR => by
  show Go X [] [(0, .int l0), (1, .int l1), (2, .int l2), (3, .int l3)] 0 []
  rw [k_Mo_replays] at h
  refine g_iload_n (pc := 0) hX d_Mo_replays_0 rfl 1 rfl ?_
  by_cases c1 : l1 = (0 : Int32)
  · rw [if_pos c1] at h
    refine g_tswIn (pc := 1) (tgt := 36) (off := 35) hX d_Mo_replays_1 (0 : Int32) c1 (by decide) (by decide) rfl (by decide) ?_
    refine g_iload_n (pc := 36) hX d_Mo_replays_36 rfl 2 rfl ?_
    refine g_if_eq (pc := 37) (tgt := 45) hX d_Mo_replays_37 (by decide) h (fun c2 h => ?_) (fun c2 h => ?_)
    · refine g_iload_n (pc := 45) hX d_Mo_replays_45 rfl 0 rfl ?_
      refine g_iload_n (pc := 46) hX d_Mo_replays_46 rfl 3 rfl ?_
      refine g_iadd (pc := 47) hX d_Mo_replays_47 ?_
      refine g_goto (pc := 48) (tgt := 63) hX d_Mo_replays_48 (by decide) ?_
      obtain rfl := Option.some.inj h
      exact g_iret (pc := 63) hX hR d_Mo_replays_63
    · refine g_iload_n (pc := 40) hX d_Mo_replays_40 rfl 2 rfl ?_
      refine g_iconst (pc := 41) hX d_Mo_replays_41 zc_2 ?_
      refine g_icmp_ne (pc := 42) (tgt := 51) hX d_Mo_replays_42 (by decide) h (fun c3 h => ?_) (fun c3 h => ?_)
      · refine g_iload_n (pc := 51) hX d_Mo_replays_51 rfl 2 rfl ?_
        refine g_iconst (pc := 52) hX d_Mo_replays_52 zc_1 ?_
        refine g_icmp_ne (pc := 53) (tgt := 62) hX d_Mo_replays_53 (by decide) h (fun c4 h => ?_) (fun c4 h => ?_)
        · refine g_iload_n (pc := 62) hX d_Mo_replays_62 rfl 0 rfl ?_
          obtain rfl := Option.some.inj h
          exact g_iret (pc := 63) hX hR d_Mo_replays_63
        · refine g_iload_n (pc := 56) hX d_Mo_replays_56 rfl 0 rfl ?_
          refine g_iload_n (pc := 57) hX d_Mo_replays_57 rfl 3 rfl ?_
          refine g_isub (pc := 58) hX d_Mo_replays_58 ?_
          refine g_goto (pc := 59) (tgt := 63) hX d_Mo_replays_59 (by decide) ?_
          obtain rfl := Option.some.inj h
          exact g_iret (pc := 63) hX hR d_Mo_replays_63
      · refine g_iload_n (pc := 45) hX d_Mo_replays_45 rfl 0 rfl ?_
        refine g_iload_n (pc := 46) hX d_Mo_replays_46 rfl 3 rfl ?_
        refine g_iadd (pc := 47) hX d_Mo_replays_47 ?_
        refine g_goto (pc := 48) (tgt := 63) hX d_Mo_replays_48 (by decide) ?_
        obtain rfl := Option.some.inj h
        exact g_iret (pc := 63) hX hR d_Mo_replays_63
  rw [if_neg c1] at h
  by_cases c5 : l1 = (1 : Int32)
  · rw [if_pos c5] at h
    refine g_tswIn (pc := 1) (tgt := 64) (off := 63) hX d_Mo_replays_1 (1 : Int32) c5 (by decide) (by decide) rfl (by decide) ?_
    refine g_iload_n (pc := 64) hX d_Mo_replays_64 rfl 2 rfl ?_
    refine g_iconst (pc := 65) hX d_Mo_replays_65 zc_1 ?_
    refine g_icmp_ne (pc := 66) (tgt := 75) hX d_Mo_replays_66 (by decide) h (fun c6 h => ?_) (fun c6 h => ?_)
    · refine g_iload_n (pc := 75) hX d_Mo_replays_75 rfl 0 rfl ?_
      obtain rfl := Option.some.inj h
      exact g_iret (pc := 76) hX hR d_Mo_replays_76
    · refine g_iload_n (pc := 69) hX d_Mo_replays_69 rfl 0 rfl ?_
      refine g_iconst (pc := 70) hX d_Mo_replays_70 zc_1 ?_
      refine g_iadd (pc := 71) hX d_Mo_replays_71 ?_
      refine g_goto (pc := 72) (tgt := 76) hX d_Mo_replays_72 (by decide) ?_
      obtain rfl := Option.some.inj h
      exact g_iret (pc := 76) hX hR d_Mo_replays_76
  rw [if_neg c5] at h
  by_cases c7 : l1 = (2 : Int32)
  · rw [if_pos c7] at h
    refine g_tswIn (pc := 1) (tgt := 77) (off := 76) hX d_Mo_replays_1 (2 : Int32) c7 (by decide) (by decide) rfl (by decide) ?_
    refine g_iload_n (pc := 77) hX d_Mo_replays_77 rfl 2 rfl ?_
    refine g_iconst (pc := 78) hX d_Mo_replays_78 zc_5 ?_
    refine g_icmp_ne (pc := 79) (tgt := 91) hX d_Mo_replays_79 (by decide) h (fun c8 h => ?_) (fun c8 h => ?_)
    · refine g_iload_n (pc := 91) hX d_Mo_replays_91 rfl 2 rfl ?_
      refine g_bipush (pc := 92) hX d_Mo_replays_92 ze_6 ?_
      refine g_icmp_ne (pc := 94) (tgt := 106) hX d_Mo_replays_94 (by decide) h (fun c9 h => ?_) (fun c9 h => ?_)
      · refine g_iload_n (pc := 106) hX d_Mo_replays_106 rfl 0 rfl ?_
        obtain rfl := Option.some.inj h
        exact g_iret (pc := 107) hX hR d_Mo_replays_107
      · refine g_iload_n (pc := 97) hX d_Mo_replays_97 rfl 0 rfl ?_
        refine g_iload_n (pc := 98) hX d_Mo_replays_98 rfl 3 rfl ?_
        refine g_bipush (pc := 99) hX d_Mo_replays_99 ze_10 ?_
        refine g_irem (pc := 101) hX d_Mo_replays_101 (by decide) ?_
        refine g_isub (pc := 102) hX d_Mo_replays_102 ?_
        refine g_goto (pc := 103) (tgt := 107) hX d_Mo_replays_103 (by decide) ?_
        obtain rfl := Option.some.inj h
        exact g_iret (pc := 107) hX hR d_Mo_replays_107
    · refine g_iload_n (pc := 82) hX d_Mo_replays_82 rfl 0 rfl ?_
      refine g_iload_n (pc := 83) hX d_Mo_replays_83 rfl 3 rfl ?_
      refine g_bipush (pc := 84) hX d_Mo_replays_84 ze_10 ?_
      refine g_irem (pc := 86) hX d_Mo_replays_86 (by decide) ?_
      refine g_iadd (pc := 87) hX d_Mo_replays_87 ?_
      refine g_goto (pc := 88) (tgt := 107) hX d_Mo_replays_88 (by decide) ?_
      obtain rfl := Option.some.inj h
      exact g_iret (pc := 107) hX hR d_Mo_replays_107
  rw [if_neg c7] at h
  by_cases c10 : l1 = (3 : Int32)
  · rw [if_pos c10] at h
    refine g_tswIn (pc := 1) (tgt := 108) (off := 107) hX d_Mo_replays_1 (3 : Int32) c10 (by decide) (by decide) rfl (by decide) ?_
    refine g_iload_n (pc := 108) hX d_Mo_replays_108 rfl 2 rfl ?_
    refine g_bipush (pc := 109) hX d_Mo_replays_109 ze_7 ?_
    refine g_icmp_ne (pc := 111) (tgt := 118) hX d_Mo_replays_111 (by decide) h (fun c11 h => ?_) (fun c11 h => ?_)
    · refine g_iload_n (pc := 118) hX d_Mo_replays_118 rfl 0 rfl ?_
      obtain rfl := Option.some.inj h
      exact g_iret (pc := 119) hX hR d_Mo_replays_119
    · refine g_iload_n (pc := 114) hX d_Mo_replays_114 rfl 3 rfl ?_
      refine g_goto (pc := 115) (tgt := 119) hX d_Mo_replays_115 (by decide) ?_
      obtain rfl := Option.some.inj h
      exact g_iret (pc := 119) hX hR d_Mo_replays_119
  rw [if_neg c10] at h
  by_cases c12 : l1 = (4 : Int32)
  · rw [if_pos c12] at h
    refine g_tswIn (pc := 1) (tgt := 120) (off := 119) hX d_Mo_replays_1 (4 : Int32) c12 (by decide) (by decide) rfl (by decide) ?_
    refine g_iload_n (pc := 120) hX d_Mo_replays_120 rfl 2 rfl ?_
    refine g_bipush (pc := 121) hX d_Mo_replays_121 ze_8 ?_
    refine g_icmp_ne (pc := 123) (tgt := 132) hX d_Mo_replays_123 (by decide) h (fun c13 h => ?_) (fun c13 h => ?_)
    · refine g_iload_n (pc := 132) hX d_Mo_replays_132 rfl 0 rfl ?_
      obtain rfl := Option.some.inj h
      exact g_iret (pc := 133) hX hR d_Mo_replays_133
    · refine g_iload_n (pc := 126) hX d_Mo_replays_126 rfl 0 rfl ?_
      refine g_iconst (pc := 127) hX d_Mo_replays_127 zc_1 ?_
      refine g_iadd (pc := 128) hX d_Mo_replays_128 ?_
      refine g_goto (pc := 129) (tgt := 133) hX d_Mo_replays_129 (by decide) ?_
      obtain rfl := Option.some.inj h
      exact g_iret (pc := 133) hX hR d_Mo_replays_133
  rw [if_neg c12] at h
  refine g_tswOut (pc := 1) (tgt := 134) hX d_Mo_replays_1 (by have a1 := lv_neT c1 (a := 0) (by decide); have a5 := lv_neT c5 (a := 1) (by decide); have a7 := lv_neT c7 (a := 2) (by decide); have a10 := lv_neT c10 (a := 3) (by decide); have a12 := lv_neT c12 (a := 4) (by decide); omega) (by decide) ?_
  refine g_iload_n (pc := 134) hX d_Mo_replays_134 rfl 2 rfl ?_
  refine g_iconst (pc := 135) hX d_Mo_replays_135 zc_3 ?_
  refine g_icmp_ne (pc := 136) (tgt := 145) hX d_Mo_replays_136 (by decide) h (fun c14 h => ?_) (fun c14 h => ?_)
  · refine g_iload_n (pc := 145) hX d_Mo_replays_145 rfl 0 rfl ?_
    obtain rfl := Option.some.inj h
    exact g_iret (pc := 146) hX hR d_Mo_replays_146
  · refine g_iload_n (pc := 139) hX d_Mo_replays_139 rfl 0 rfl ?_
    refine g_iconst (pc := 140) hX d_Mo_replays_140 zc_1 ?_
    refine g_iadd (pc := 141) hX d_Mo_replays_141 ?_
    refine g_goto (pc := 142) (tgt := 146) hX d_Mo_replays_142 (by decide) ?_
    obtain rfl := Option.some.inj h
    exact g_iret (pc := 146) hX hR d_Mo_replays_146)
theorem d_Mo_replayed_0 : decode zb_Mo_replayed 0 = .ok (.aload_n 0, 1) := by decide +kernel
theorem d_Mo_replayed_1 : decode zb_Mo_replayed 1 = .ok (.iload_n 1, 1) := by decide +kernel
theorem d_Mo_replayed_2 : decode zb_Mo_replayed 2 = .ok (.invokevirtual 178, 3) := by decide +kernel
theorem d_Mo_replayed_5 : decode zb_Mo_replayed 5 = .ok (.ifCond .eq 12, 3) := by decide +kernel
theorem d_Mo_replayed_8 : decode zb_Mo_replayed 8 = .ok (.iload_n 2, 1) := by decide +kernel
theorem d_Mo_replayed_9 : decode zb_Mo_replayed 9 = .ok (.iconst 0, 1) := by decide +kernel
theorem d_Mo_replayed_10 : decode zb_Mo_replayed 10 = .ok (.iconst 5, 1) := by decide +kernel
theorem d_Mo_replayed_11 : decode zb_Mo_replayed 11 = .ok (.invokestatic 84, 3) := by decide +kernel
theorem d_Mo_replayed_14 : decode zb_Mo_replayed 14 = .ok (.ifCond .ne 5, 3) := by decide +kernel
theorem d_Mo_replayed_17 : decode zb_Mo_replayed 17 = .ok (.iconst (-1), 1) := by decide +kernel
theorem d_Mo_replayed_18 : decode zb_Mo_replayed 18 = .ok (.ireturn, 1) := by decide +kernel
theorem d_Mo_replayed_19 : decode zb_Mo_replayed 19 = .ok (.aload_n 0, 1) := by decide +kernel
theorem d_Mo_replayed_20 : decode zb_Mo_replayed 20 = .ok (.getfield 92, 3) := by decide +kernel
theorem d_Mo_replayed_23 : decode zb_Mo_replayed 23 = .ok (.sipush 300, 3) := by decide +kernel
theorem d_Mo_replayed_26 : decode zb_Mo_replayed 26 = .ok (.if_icmp .le 10, 3) := by decide +kernel
theorem d_Mo_replayed_29 : decode zb_Mo_replayed 29 = .ok (.aload_n 0, 1) := by decide +kernel
theorem d_Mo_replayed_30 : decode zb_Mo_replayed 30 = .ok (.bipush 10, 2) := by decide +kernel
theorem d_Mo_replayed_32 : decode zb_Mo_replayed 32 = .ok (.invokevirtual 172, 3) := by decide +kernel
theorem d_Mo_replayed_35 : decode zb_Mo_replayed 35 = .ok (.ireturn, 1) := by decide +kernel
theorem d_Mo_replayed_36 : decode zb_Mo_replayed 36 = .ok (.iload_n 2, 1) := by decide +kernel
theorem d_Mo_replayed_37 : decode zb_Mo_replayed 37 = .ok (.iconst 3, 1) := by decide +kernel
theorem d_Mo_replayed_38 : decode zb_Mo_replayed 38 = .ok (.if_icmp .ne 8, 3) := by decide +kernel
theorem d_Mo_replayed_41 : decode zb_Mo_replayed 41 = .ok (.bipush (-5), 2) := by decide +kernel
theorem d_Mo_replayed_43 : decode zb_Mo_replayed 43 = .ok (.goto 4, 3) := by decide +kernel
theorem d_Mo_replayed_46 : decode zb_Mo_replayed 46 = .ok (.iconst 0, 1) := by decide +kernel
theorem d_Mo_replayed_47 : decode zb_Mo_replayed 47 = .ok (.istore_n 3, 1) := by decide +kernel
theorem d_Mo_replayed_48 : decode zb_Mo_replayed 48 = .ok (.iconst 0, 1) := by decide +kernel
theorem d_Mo_replayed_49 : decode zb_Mo_replayed 49 = .ok (.istore 4, 2) := by decide +kernel
theorem d_Mo_replayed_51 : decode zb_Mo_replayed 51 = .ok (.iload 4, 2) := by decide +kernel
theorem d_Mo_replayed_53 : decode zb_Mo_replayed 53 = .ok (.aload_n 0, 1) := by decide +kernel
theorem d_Mo_replayed_54 : decode zb_Mo_replayed 54 = .ok (.getfield 92, 3) := by decide +kernel
theorem d_Mo_replayed_57 : decode zb_Mo_replayed 57 = .ok (.if_icmp .ge 40, 3) := by decide +kernel
theorem d_Mo_replayed_60 : decode zb_Mo_replayed 60 = .ok (.aload_n 0, 1) := by decide +kernel
theorem d_Mo_replayed_61 : decode zb_Mo_replayed 61 = .ok (.iload 4, 2) := by decide +kernel
theorem d_Mo_replayed_63 : decode zb_Mo_replayed 63 = .ok (.iconst 1, 1) := by decide +kernel
theorem d_Mo_replayed_64 : decode zb_Mo_replayed 64 = .ok (.invokevirtual 289, 3) := by decide +kernel
theorem d_Mo_replayed_67 : decode zb_Mo_replayed 67 = .ok (.iload_n 1, 1) := by decide +kernel
theorem d_Mo_replayed_68 : decode zb_Mo_replayed 68 = .ok (.if_icmp .ne 23, 3) := by decide +kernel
theorem d_Mo_replayed_71 : decode zb_Mo_replayed 71 = .ok (.iload_n 3, 1) := by decide +kernel
theorem d_Mo_replayed_72 : decode zb_Mo_replayed 72 = .ok (.iload_n 2, 1) := by decide +kernel
theorem d_Mo_replayed_73 : decode zb_Mo_replayed 73 = .ok (.aload_n 0, 1) := by decide +kernel
theorem d_Mo_replayed_74 : decode zb_Mo_replayed 74 = .ok (.iload 4, 2) := by decide +kernel
theorem d_Mo_replayed_76 : decode zb_Mo_replayed 76 = .ok (.iconst 0, 1) := by decide +kernel
theorem d_Mo_replayed_77 : decode zb_Mo_replayed 77 = .ok (.invokevirtual 289, 3) := by decide +kernel
theorem d_Mo_replayed_80 : decode zb_Mo_replayed 80 = .ok (.aload_n 0, 1) := by decide +kernel
theorem d_Mo_replayed_81 : decode zb_Mo_replayed 81 = .ok (.iload 4, 2) := by decide +kernel
theorem d_Mo_replayed_83 : decode zb_Mo_replayed 83 = .ok (.iconst 2, 1) := by decide +kernel
theorem d_Mo_replayed_84 : decode zb_Mo_replayed 84 = .ok (.invokevirtual 289, 3) := by decide +kernel
theorem d_Mo_replayed_87 : decode zb_Mo_replayed 87 = .ok (.invokestatic 292, 3) := by decide +kernel
theorem d_Mo_replayed_90 : decode zb_Mo_replayed 90 = .ok (.istore_n 3, 1) := by decide +kernel
theorem d_Mo_replayed_91 : decode zb_Mo_replayed 91 = .ok (.iinc 4 1, 3) := by decide +kernel
theorem d_Mo_replayed_94 : decode zb_Mo_replayed 94 = .ok (.goto (-43), 3) := by decide +kernel
theorem d_Mo_replayed_97 : decode zb_Mo_replayed 97 = .ok (.iload_n 3, 1) := by decide +kernel
theorem d_Mo_replayed_98 : decode zb_Mo_replayed 98 = .ok (.ireturn, 1) := by decide +kernel
def k_Mo_replayed_51 (l1 : Int32) (l2 : Int32) : Nat → Int32 → Int32 → zsM → Option (Int32 × zsM)
  | 0, _, _, _ => none
  | fu + 1, l3, l4, x => (if l4 < (x.1 14) then (k_Mo_entryPart x l4 ((1 : Int32))).bind fun o8 => (if o8 = l1 then (k_Mo_entryPart x l4 ((0 : Int32))).bind fun o10 => (k_Mo_entryPart x l4 ((2 : Int32))).bind fun o11 => (k_Mo_replays l3 l2 o10 o11).bind fun o12 => k_Mo_replayed_51 l1 l2 fu o12 ((l4 + (1 : Int32))) x else k_Mo_replayed_51 l1 l2 fu l3 ((l4 + (1 : Int32))) x) else some (l3, x))
set_option maxRecDepth 20000 in
theorem w_Mo_replayed_51 {X : zX} {c : zY} {q : Nat → Nat} {l1 : Int32} {l2 : Int32} {out : Int32 × zsM} (hX : Ok X zr_Mo zb_Mo_replayed 5 1 c) (hR : Rt X (some .int) (some (.int out.1)) (zwM c q out.2)) : ∀ (fu : Nat) (l3 : Int32) (l4 : Int32) (x : zsM), k_Mo_replayed_51 l1 l2 fu l3 l4 x = some out → Go X (zwM c q x) [(0, .ref ((q 0))), (1, .int l1), (2, .int l2), (3, .int l3), (4, .int l4)] 51 [] := by
  intro fu
  induction fu with
  | zero => intro l3 l4 x h; rw [k_Mo_replayed_51] at h; cases h
  | succ fu ih =>
    intro l3 l4 x h
    rw [k_Mo_replayed_51] at h
    refine g_iload (pc := 51) hX d_Mo_replayed_51 4 rfl ?_
    refine g_aload_n (pc := 53) hX d_Mo_replayed_53 rfl 0 rfl ?_
    refine gf_Mo_92 (pc := 54) (v := .int ((x.1 14))) hX 0 rfl rfl d_Mo_replayed_54 ?_
    refine g_icmp_ge (pc := 57) (tgt := 97) hX d_Mo_replayed_57 (by decide) h (fun c7 h => ?_) (fun c7 h => ?_)
    · refine g_iload_n (pc := 97) hX d_Mo_replayed_97 rfl 3 rfl ?_
      obtain rfl := Option.some.inj h
      exact g_iret (pc := 98) hX hR d_Mo_replayed_98
    · refine g_aload_n (pc := 60) hX d_Mo_replayed_60 rfl 0 rfl ?_
      refine g_iload (pc := 61) hX d_Mo_replayed_61 4 rfl ?_
      refine g_iconst (pc := 63) hX d_Mo_replayed_63 zc_1 ?_
      obtain ⟨o8, e8, h⟩ := zbind h
      refine g_cvI (pc := 64) (w1 := []) (w2 := []) (st := []) (w' := (zwM c q x)) hX zk_Mo_entryPart zs_Mo_entryPart zL_Mo_289 (c_Mo_entryPart c q x l4 ((1 : Int32)) e8) rfl rfl rfl rfl (zself _) (zself _).symm 0 10 rfl rfl rfl d_Mo_replayed_64 ?_
      refine g_iload_n (pc := 67) hX d_Mo_replayed_67 rfl 1 rfl ?_
      refine g_icmp_ne (pc := 68) (tgt := 91) hX d_Mo_replayed_68 (by decide) h (fun c9 h => ?_) (fun c9 h => ?_)
      · refine g_iinc (pc := 91) (q := 4) (L' := [(4, .int ((l4 + (1 : Int32)))), (0, .ref ((q 0))), (1, .int l1), (2, .int l2), (3, .int l3)]) hX d_Mo_replayed_91 rfl zc_1 rfl rfl ?_
        refine g_goto (pc := 94) (tgt := 51) hX d_Mo_replayed_94 (by decide) ?_
        refine g_ls (L' := [(0, .ref ((q 0))), (1, .int l1), (2, .int l2), (3, .int l3), (4, .int ((l4 + (1 : Int32))))]) [1, 2, 3, 4, 0] rfl ?_
        exact ih _ _ _ h
      · refine g_iload_n (pc := 71) hX d_Mo_replayed_71 rfl 3 rfl ?_
        refine g_iload_n (pc := 72) hX d_Mo_replayed_72 rfl 2 rfl ?_
        refine g_aload_n (pc := 73) hX d_Mo_replayed_73 rfl 0 rfl ?_
        refine g_iload (pc := 74) hX d_Mo_replayed_74 4 rfl ?_
        refine g_iconst (pc := 76) hX d_Mo_replayed_76 zc_0 ?_
        obtain ⟨o10, e10, h⟩ := zbind h
        refine g_cvI (pc := 77) (w1 := []) (w2 := []) (st := [.int l2, .int l3]) (w' := (zwM c q x)) hX zk_Mo_entryPart zs_Mo_entryPart zL_Mo_289 (c_Mo_entryPart c q x l4 ((0 : Int32)) e10) rfl rfl rfl rfl (zself _) (zself _).symm 0 10 rfl rfl rfl d_Mo_replayed_77 ?_
        refine g_aload_n (pc := 80) hX d_Mo_replayed_80 rfl 0 rfl ?_
        refine g_iload (pc := 81) hX d_Mo_replayed_81 4 rfl ?_
        refine g_iconst (pc := 83) hX d_Mo_replayed_83 zc_2 ?_
        obtain ⟨o11, e11, h⟩ := zbind h
        refine g_cvI (pc := 84) (w1 := []) (w2 := []) (st := [.int o10, .int l2, .int l3]) (w' := (zwM c q x)) hX zk_Mo_entryPart zs_Mo_entryPart zL_Mo_289 (c_Mo_entryPart c q x l4 ((2 : Int32)) e11) rfl rfl rfl rfl (zself _) (zself _).symm 0 10 rfl rfl rfl d_Mo_replayed_84 ?_
        obtain ⟨o12, e12, h⟩ := zbind h
        refine g_csI (pc := 87) (st := []) hX zk_Mo_replays zL_Mo_292 (c_Mo_replays c l3 l2 o10 o11 e12) rfl rfl rfl rfl rfl d_Mo_replayed_87 ?_
        refine g_istore_n (pc := 90) (L' := [(3, .int o12), (0, .ref ((q 0))), (1, .int l1), (2, .int l2), (4, .int l4)]) hX d_Mo_replayed_90 rfl rfl rfl ?_
        refine g_iinc (pc := 91) (q := 4) (L' := [(4, .int ((l4 + (1 : Int32)))), (3, .int o12), (0, .ref ((q 0))), (1, .int l1), (2, .int l2)]) hX d_Mo_replayed_91 rfl zc_1 rfl rfl ?_
        refine g_goto (pc := 94) (tgt := 51) hX d_Mo_replayed_94 (by decide) ?_
        refine g_ls (L' := [(0, .ref ((q 0))), (1, .int l1), (2, .int l2), (3, .int o12), (4, .int ((l4 + (1 : Int32))))]) [2, 3, 4, 1, 0] rfl ?_
        exact ih _ _ _ h
def k_Mo_replayed (x : zsM) (l1 : Int32) (l2 : Int32) : Option (Int32 × zsM) := (k_Mo_isFighter x l1).bind fun o1 => (if o1 = 0 then some ((-1 : Int32), x) else (k_Mo_isBetween l2 ((0 : Int32)) ((5 : Int32))).bind fun o3 => (if o3 = 0 then some ((-1 : Int32), x) else (if (300 : Int32) < (x.1 14) then (k_Mo_refuses x ((10 : Int32))).bind fun o13 => some (o13.1, o13.2) else (if l2 = (3 : Int32) then k_Mo_replayed_51 l1 l2 zFu ((-5 : Int32)) ((0 : Int32)) x else k_Mo_replayed_51 l1 l2 zFu ((0 : Int32)) ((0 : Int32)) x))))
set_option maxRecDepth 20000 in
theorem c_Mo_replayed (c : zY) (q : Nat → Nat) (x : zsM) (l1 : Int32) (l2 : Int32) {out : Int32 × zsM} (h : k_Mo_replayed x l1 l2 = some out) : KM zy_Mo_replayed zb_Mo_replayed 5 (some .int) 1 c [.ref ((q 0)), .int l1, .int l2] (zwM c q x) (zwM c q out.2) (some (.int out.1)) := zK_of zp_Mo rfl (Nat.le_of_ble_eq_true rfl) (zq_Mo c q _ _) (fun X hX hR => by
  show Go X (zwM c q x) [(0, .ref ((q 0))), (1, .int l1), (2, .int l2)] 0 []
  rw [k_Mo_replayed] at h
  refine g_aload_n (pc := 0) hX d_Mo_replayed_0 rfl 0 rfl ?_
  refine g_iload_n (pc := 1) hX d_Mo_replayed_1 rfl 1 rfl ?_
  obtain ⟨o1, e1, h⟩ := zbind h
  refine g_cvI (pc := 2) (w1 := []) (w2 := []) (st := []) (w' := (zwM c q x)) hX zk_Mo_isFighter zs_Mo_isFighter zL_Mo_178 (c_Mo_isFighter c q x l1 e1) rfl rfl rfl rfl (zself _) (zself _).symm 0 10 rfl rfl rfl d_Mo_replayed_2 ?_
  refine g_if_eq (pc := 5) (tgt := 17) hX d_Mo_replayed_5 (by decide) h (fun c2 h => ?_) (fun c2 h => ?_)
  · refine g_iconst (pc := 17) hX d_Mo_replayed_17 zc_m1 ?_
    obtain rfl := Option.some.inj h
    exact g_iret (pc := 18) hX hR d_Mo_replayed_18
  · refine g_iload_n (pc := 8) hX d_Mo_replayed_8 rfl 2 rfl ?_
    refine g_iconst (pc := 9) hX d_Mo_replayed_9 zc_0 ?_
    refine g_iconst (pc := 10) hX d_Mo_replayed_10 zc_5 ?_
    obtain ⟨o3, e3, h⟩ := zbind h
    refine g_csI (pc := 11) (st := []) hX zk_Mo_isBetween zL_Mo_84 (c_Mo_isBetween c l2 ((0 : Int32)) ((5 : Int32)) e3) rfl rfl rfl rfl rfl d_Mo_replayed_11 ?_
    refine g_if_ne (pc := 14) (tgt := 19) hX d_Mo_replayed_14 (by decide) h (fun c4 h => ?_) (fun c4 h => ?_)
    · refine g_aload_n (pc := 19) hX d_Mo_replayed_19 rfl 0 rfl ?_
      refine gf_Mo_92 (pc := 20) (v := .int ((x.1 14))) hX 0 rfl rfl d_Mo_replayed_20 ?_
      refine g_sipush (pc := 23) hX d_Mo_replayed_23 zh_300 ?_
      refine g_icmp_le (pc := 26) (tgt := 36) hX d_Mo_replayed_26 (by decide) h (fun c5 h => ?_) (fun c5 h => ?_)
      · refine g_iload_n (pc := 36) hX d_Mo_replayed_36 rfl 2 rfl ?_
        refine g_iconst (pc := 37) hX d_Mo_replayed_37 zc_3 ?_
        refine g_icmp_ne (pc := 38) (tgt := 46) hX d_Mo_replayed_38 (by decide) h (fun c6 h => ?_) (fun c6 h => ?_)
        · refine g_iconst (pc := 46) hX d_Mo_replayed_46 zc_0 ?_
          refine g_istore_n (pc := 47) (L' := [(3, .int ((0 : Int32))), (0, .ref ((q 0))), (1, .int l1), (2, .int l2)]) hX d_Mo_replayed_47 rfl rfl rfl ?_
          refine g_iconst (pc := 48) hX d_Mo_replayed_48 zc_0 ?_
          refine g_istore (pc := 49) (L' := [(4, .int ((0 : Int32))), (3, .int ((0 : Int32))), (0, .ref ((q 0))), (1, .int l1), (2, .int l2)]) hX d_Mo_replayed_49 rfl rfl ?_
          refine g_ls (L' := [(0, .ref ((q 0))), (1, .int l1), (2, .int l2), (3, .int ((0 : Int32))), (4, .int ((0 : Int32)))]) [2, 3, 4, 1, 0] rfl ?_
          exact w_Mo_replayed_51 hX hR _ _ _ _ h
        · refine g_bipush (pc := 41) hX d_Mo_replayed_41 ze_m5 ?_
          refine g_goto (pc := 43) (tgt := 47) hX d_Mo_replayed_43 (by decide) ?_
          refine g_istore_n (pc := 47) (L' := [(3, .int ((-5 : Int32))), (0, .ref ((q 0))), (1, .int l1), (2, .int l2)]) hX d_Mo_replayed_47 rfl rfl rfl ?_
          refine g_iconst (pc := 48) hX d_Mo_replayed_48 zc_0 ?_
          refine g_istore (pc := 49) (L' := [(4, .int ((0 : Int32))), (3, .int ((-5 : Int32))), (0, .ref ((q 0))), (1, .int l1), (2, .int l2)]) hX d_Mo_replayed_49 rfl rfl ?_
          refine g_ls (L' := [(0, .ref ((q 0))), (1, .int l1), (2, .int l2), (3, .int ((-5 : Int32))), (4, .int ((0 : Int32)))]) [2, 3, 4, 1, 0] rfl ?_
          exact w_Mo_replayed_51 hX hR _ _ _ _ h
      · refine g_aload_n (pc := 29) hX d_Mo_replayed_29 rfl 0 rfl ?_
        refine g_bipush (pc := 30) hX d_Mo_replayed_30 ze_10 ?_
        obtain ⟨o13, e13, h⟩ := zbind h
        refine g_cvI (pc := 32) (w1 := []) (w2 := []) (st := []) (w' := (zwM c q o13.2)) hX zk_Mo_refuses zs_Mo_refuses zL_Mo_172 (c_Mo_refuses c q x ((10 : Int32)) e13) rfl rfl rfl rfl (zself _) (zself _).symm 0 10 rfl rfl rfl d_Mo_replayed_32 ?_
        obtain rfl := Option.some.inj h
        exact g_iret (pc := 35) hX hR d_Mo_replayed_35
    · refine g_iconst (pc := 17) hX d_Mo_replayed_17 zc_m1 ?_
      obtain rfl := Option.some.inj h
      exact g_iret (pc := 18) hX hR d_Mo_replayed_18)
theorem d_Mo_reason_0 : decode zb_Mo_reason 0 = .ok (.aload_n 0, 1) := by decide +kernel
theorem d_Mo_reason_1 : decode zb_Mo_reason 1 = .ok (.getfield 43, 3) := by decide +kernel
theorem d_Mo_reason_4 : decode zb_Mo_reason 4 = .ok (.ireturn, 1) := by decide +kernel
def k_Mo_reason (x : zsM) : Option (Int32) := some ((x.1 12))
set_option maxRecDepth 20000 in
theorem c_Mo_reason (c : zY) (q : Nat → Nat) (x : zsM) {out : Int32} (h : k_Mo_reason x = some out) : KM zy_Mo_reason zb_Mo_reason 1 (some .int) 0 c [.ref ((q 0))] (zwM c q x) (zwM c q x) (some (.int out)) := zK_of zp_Mo rfl (Nat.le_of_ble_eq_true rfl) (zq_Mo c q _ _) (fun X hX hR => by
  show Go X (zwM c q x) [(0, .ref ((q 0)))] 0 []
  rw [k_Mo_reason] at h
  refine g_aload_n (pc := 0) hX d_Mo_reason_0 rfl 0 rfl ?_
  refine gf_Mo_43 (pc := 1) (v := .int ((x.1 12))) hX 0 rfl rfl d_Mo_reason_1 ?_
  obtain rfl := Option.some.inj h
  exact g_iret (pc := 4) hX hR d_Mo_reason_4)
theorem d_Mo_livesOf_0 : decode zb_Mo_livesOf 0 = .ok (.iconst 0, 1) := by decide +kernel
theorem d_Mo_livesOf_1 : decode zb_Mo_livesOf 1 = .ok (.istore_n 2, 1) := by decide +kernel
theorem d_Mo_livesOf_2 : decode zb_Mo_livesOf 2 = .ok (.iconst 0, 1) := by decide +kernel
theorem d_Mo_livesOf_3 : decode zb_Mo_livesOf 3 = .ok (.istore_n 3, 1) := by decide +kernel
theorem d_Mo_livesOf_4 : decode zb_Mo_livesOf 4 = .ok (.iload_n 3, 1) := by decide +kernel
theorem d_Mo_livesOf_5 : decode zb_Mo_livesOf 5 = .ok (.aload_n 0, 1) := by decide +kernel
theorem d_Mo_livesOf_6 : decode zb_Mo_livesOf 6 = .ok (.getfield 81, 3) := by decide +kernel
theorem d_Mo_livesOf_9 : decode zb_Mo_livesOf 9 = .ok (.if_icmp .ge 32, 3) := by decide +kernel
theorem d_Mo_livesOf_12 : decode zb_Mo_livesOf 12 = .ok (.iload_n 2, 1) := by decide +kernel
theorem d_Mo_livesOf_13 : decode zb_Mo_livesOf 13 = .ok (.aload_n 0, 1) := by decide +kernel
theorem d_Mo_livesOf_14 : decode zb_Mo_livesOf 14 = .ok (.getfield 13, 3) := by decide +kernel
theorem d_Mo_livesOf_17 : decode zb_Mo_livesOf 17 = .ok (.iload_n 3, 1) := by decide +kernel
theorem d_Mo_livesOf_18 : decode zb_Mo_livesOf 18 = .ok (.iaload, 1) := by decide +kernel
theorem d_Mo_livesOf_19 : decode zb_Mo_livesOf 19 = .ok (.iload_n 1, 1) := by decide +kernel
theorem d_Mo_livesOf_20 : decode zb_Mo_livesOf 20 = .ok (.if_icmp .ne 12, 3) := by decide +kernel
theorem d_Mo_livesOf_23 : decode zb_Mo_livesOf 23 = .ok (.aload_n 0, 1) := by decide +kernel
theorem d_Mo_livesOf_24 : decode zb_Mo_livesOf 24 = .ok (.getfield 22, 3) := by decide +kernel
theorem d_Mo_livesOf_27 : decode zb_Mo_livesOf 27 = .ok (.iload_n 3, 1) := by decide +kernel
theorem d_Mo_livesOf_28 : decode zb_Mo_livesOf 28 = .ok (.iaload, 1) := by decide +kernel
theorem d_Mo_livesOf_29 : decode zb_Mo_livesOf 29 = .ok (.goto 4, 3) := by decide +kernel
theorem d_Mo_livesOf_32 : decode zb_Mo_livesOf 32 = .ok (.iconst 0, 1) := by decide +kernel
theorem d_Mo_livesOf_33 : decode zb_Mo_livesOf 33 = .ok (.iadd, 1) := by decide +kernel
theorem d_Mo_livesOf_34 : decode zb_Mo_livesOf 34 = .ok (.istore_n 2, 1) := by decide +kernel
theorem d_Mo_livesOf_35 : decode zb_Mo_livesOf 35 = .ok (.iinc 3 1, 3) := by decide +kernel
theorem d_Mo_livesOf_38 : decode zb_Mo_livesOf 38 = .ok (.goto (-34), 3) := by decide +kernel
theorem d_Mo_livesOf_41 : decode zb_Mo_livesOf 41 = .ok (.iload_n 2, 1) := by decide +kernel
theorem d_Mo_livesOf_42 : decode zb_Mo_livesOf 42 = .ok (.ireturn, 1) := by decide +kernel
def k_Mo_livesOf_4 (x : zsM) (l1 : Int32) : Nat → Int32 → Int32 → Option (Int32)
  | 0, _, _ => none
  | fu + 1, l2, l3 => (if l3 < (x.1 11) then (if zOut l3 8 then none else (if (((x.2 1)) l3.toNatClampNeg) = l1 then (if zOut l3 8 then none else k_Mo_livesOf_4 x l1 fu ((l2 + (((x.2 4)) l3.toNatClampNeg))) ((l3 + (1 : Int32)))) else k_Mo_livesOf_4 x l1 fu ((l2 + (0 : Int32))) ((l3 + (1 : Int32))))) else some l2)
set_option maxRecDepth 20000 in
theorem w_Mo_livesOf_4 {X : zX} {c : zY} {q : Nat → Nat} {x : zsM} {l1 : Int32} {out : Int32} (hX : Ok X zr_Mo zb_Mo_livesOf 4 0 c) (hR : Rt X (some .int) (some (.int out)) (zwM c q x)) : ∀ (fu : Nat) (l2 : Int32) (l3 : Int32), k_Mo_livesOf_4 x l1 fu l2 l3 = some out → Go X (zwM c q x) [(0, .ref ((q 0))), (1, .int l1), (2, .int l2), (3, .int l3)] 4 [] := by
  intro fu
  induction fu with
  | zero => intro l2 l3 h; rw [k_Mo_livesOf_4] at h; cases h
  | succ fu ih =>
    intro l2 l3 h
    rw [k_Mo_livesOf_4] at h
    refine g_iload_n (pc := 4) hX d_Mo_livesOf_4 rfl 3 rfl ?_
    refine g_aload_n (pc := 5) hX d_Mo_livesOf_5 rfl 0 rfl ?_
    refine gf_Mo_81 (pc := 6) (v := .int ((x.1 11))) hX 0 rfl rfl d_Mo_livesOf_6 ?_
    refine g_icmp_ge (pc := 9) (tgt := 41) hX d_Mo_livesOf_9 (by decide) h (fun c1 h => ?_) (fun c1 h => ?_)
    · refine g_iload_n (pc := 41) hX d_Mo_livesOf_41 rfl 2 rfl ?_
      obtain rfl := Option.some.inj h
      exact g_iret (pc := 42) hX hR d_Mo_livesOf_42
    · refine g_iload_n (pc := 12) hX d_Mo_livesOf_12 rfl 2 rfl ?_
      refine g_aload_n (pc := 13) hX d_Mo_livesOf_13 rfl 0 rfl ?_
      refine gf_Mo_13 (pc := 14) (v := .ref ((q 2))) hX 0 rfl rfl d_Mo_livesOf_14 ?_
      refine g_iload_n (pc := 17) hX d_Mo_livesOf_17 rfl 3 rfl ?_
      refine g_iald (pc := 18) (f := (x.2 1)) hX 2 rfl h d_Mo_livesOf_18 (fun h => ?_)
      refine g_iload_n (pc := 19) hX d_Mo_livesOf_19 rfl 1 rfl ?_
      refine g_icmp_ne (pc := 20) (tgt := 32) hX d_Mo_livesOf_20 (by decide) h (fun c2 h => ?_) (fun c2 h => ?_)
      · refine g_iconst (pc := 32) hX d_Mo_livesOf_32 zc_0 ?_
        refine g_iadd (pc := 33) hX d_Mo_livesOf_33 ?_
        refine g_istore_n (pc := 34) (L' := [(2, .int ((l2 + (0 : Int32)))), (0, .ref ((q 0))), (1, .int l1), (3, .int l3)]) hX d_Mo_livesOf_34 rfl rfl rfl ?_
        refine g_iinc (pc := 35) (q := 3) (L' := [(3, .int ((l3 + (1 : Int32)))), (2, .int ((l2 + (0 : Int32)))), (0, .ref ((q 0))), (1, .int l1)]) hX d_Mo_livesOf_35 rfl zc_1 rfl rfl ?_
        refine g_goto (pc := 38) (tgt := 4) hX d_Mo_livesOf_38 (by decide) ?_
        refine g_ls (L' := [(0, .ref ((q 0))), (1, .int l1), (2, .int ((l2 + (0 : Int32)))), (3, .int ((l3 + (1 : Int32))))]) [2, 3, 1, 0] rfl ?_
        exact ih _ _ h
      · refine g_aload_n (pc := 23) hX d_Mo_livesOf_23 rfl 0 rfl ?_
        refine gf_Mo_22 (pc := 24) (v := .ref ((q 5))) hX 0 rfl rfl d_Mo_livesOf_24 ?_
        refine g_iload_n (pc := 27) hX d_Mo_livesOf_27 rfl 3 rfl ?_
        refine g_iald (pc := 28) (f := (x.2 4)) hX 5 rfl h d_Mo_livesOf_28 (fun h => ?_)
        refine g_goto (pc := 29) (tgt := 33) hX d_Mo_livesOf_29 (by decide) ?_
        refine g_iadd (pc := 33) hX d_Mo_livesOf_33 ?_
        refine g_istore_n (pc := 34) (L' := [(2, .int ((l2 + (((x.2 4)) l3.toNatClampNeg)))), (0, .ref ((q 0))), (1, .int l1), (3, .int l3)]) hX d_Mo_livesOf_34 rfl rfl rfl ?_
        refine g_iinc (pc := 35) (q := 3) (L' := [(3, .int ((l3 + (1 : Int32)))), (2, .int ((l2 + (((x.2 4)) l3.toNatClampNeg)))), (0, .ref ((q 0))), (1, .int l1)]) hX d_Mo_livesOf_35 rfl zc_1 rfl rfl ?_
        refine g_goto (pc := 38) (tgt := 4) hX d_Mo_livesOf_38 (by decide) ?_
        refine g_ls (L' := [(0, .ref ((q 0))), (1, .int l1), (2, .int ((l2 + (((x.2 4)) l3.toNatClampNeg)))), (3, .int ((l3 + (1 : Int32))))]) [2, 3, 1, 0] rfl ?_
        exact ih _ _ h
def k_Mo_livesOf (x : zsM) (l1 : Int32) : Option (Int32) := k_Mo_livesOf_4 x l1 zFu ((0 : Int32)) ((0 : Int32))
set_option maxRecDepth 20000 in
theorem c_Mo_livesOf (c : zY) (q : Nat → Nat) (x : zsM) (l1 : Int32) {out : Int32} (h : k_Mo_livesOf x l1 = some out) : KM zy_Mo_livesOf zb_Mo_livesOf 4 (some .int) 0 c [.ref ((q 0)), .int l1] (zwM c q x) (zwM c q x) (some (.int out)) := zK_of zp_Mo rfl (Nat.le_of_ble_eq_true rfl) (zq_Mo c q _ _) (fun X hX hR => by
  show Go X (zwM c q x) [(0, .ref ((q 0))), (1, .int l1)] 0 []
  rw [k_Mo_livesOf] at h
  refine g_iconst (pc := 0) hX d_Mo_livesOf_0 zc_0 ?_
  refine g_istore_n (pc := 1) (L' := [(2, .int ((0 : Int32))), (0, .ref ((q 0))), (1, .int l1)]) hX d_Mo_livesOf_1 rfl rfl rfl ?_
  refine g_iconst (pc := 2) hX d_Mo_livesOf_2 zc_0 ?_
  refine g_istore_n (pc := 3) (L' := [(3, .int ((0 : Int32))), (2, .int ((0 : Int32))), (0, .ref ((q 0))), (1, .int l1)]) hX d_Mo_livesOf_3 rfl rfl rfl ?_
  refine g_ls (L' := [(0, .ref ((q 0))), (1, .int l1), (2, .int ((0 : Int32))), (3, .int ((0 : Int32)))]) [2, 3, 1, 0] rfl ?_
  exact w_Mo_livesOf_4 hX hR _ _ _ h)
theorem d_Mo_account_0 : decode zb_Mo_account 0 = .ok (.iconst 0, 1) := by decide +kernel
theorem d_Mo_account_1 : decode zb_Mo_account 1 = .ok (.istore_n 2, 1) := by decide +kernel
theorem d_Mo_account_2 : decode zb_Mo_account 2 = .ok (.iload_n 1, 1) := by decide +kernel
theorem d_Mo_account_3 : decode zb_Mo_account 3 = .ok (.tableswitch 159 0 10 #[57, 62, 96, 96, 104, 109, 114, 119, 124, 129, 154], 57) := by decide +kernel
theorem d_Mo_account_60 : decode zb_Mo_account 60 = .ok (.aload_n 0, 1) := by decide +kernel
theorem d_Mo_account_61 : decode zb_Mo_account 61 = .ok (.getfield 81, 3) := by decide +kernel
theorem d_Mo_account_64 : decode zb_Mo_account 64 = .ok (.ireturn, 1) := by decide +kernel
theorem d_Mo_account_65 : decode zb_Mo_account 65 = .ok (.iconst 0, 1) := by decide +kernel
theorem d_Mo_account_66 : decode zb_Mo_account 66 = .ok (.istore_n 3, 1) := by decide +kernel
theorem d_Mo_account_67 : decode zb_Mo_account 67 = .ok (.iload_n 3, 1) := by decide +kernel
theorem d_Mo_account_68 : decode zb_Mo_account 68 = .ok (.aload_n 0, 1) := by decide +kernel
theorem d_Mo_account_69 : decode zb_Mo_account 69 = .ok (.getfield 81, 3) := by decide +kernel
theorem d_Mo_account_72 : decode zb_Mo_account 72 = .ok (.if_icmp .ge 25, 3) := by decide +kernel
theorem d_Mo_account_75 : decode zb_Mo_account 75 = .ok (.iload_n 2, 1) := by decide +kernel
theorem d_Mo_account_76 : decode zb_Mo_account 76 = .ok (.aload_n 0, 1) := by decide +kernel
theorem d_Mo_account_77 : decode zb_Mo_account 77 = .ok (.iload_n 3, 1) := by decide +kernel
theorem d_Mo_account_78 : decode zb_Mo_account 78 = .ok (.invokevirtual 110, 3) := by decide +kernel
theorem d_Mo_account_81 : decode zb_Mo_account 81 = .ok (.ifCond .eq 7, 3) := by decide +kernel
theorem d_Mo_account_84 : decode zb_Mo_account 84 = .ok (.iconst 1, 1) := by decide +kernel
theorem d_Mo_account_85 : decode zb_Mo_account 85 = .ok (.goto 4, 3) := by decide +kernel
theorem d_Mo_account_88 : decode zb_Mo_account 88 = .ok (.iconst 0, 1) := by decide +kernel
theorem d_Mo_account_89 : decode zb_Mo_account 89 = .ok (.iadd, 1) := by decide +kernel
theorem d_Mo_account_90 : decode zb_Mo_account 90 = .ok (.istore_n 2, 1) := by decide +kernel
theorem d_Mo_account_91 : decode zb_Mo_account 91 = .ok (.iinc 3 1, 3) := by decide +kernel
theorem d_Mo_account_94 : decode zb_Mo_account 94 = .ok (.goto (-27), 3) := by decide +kernel
theorem d_Mo_account_97 : decode zb_Mo_account 97 = .ok (.iload_n 2, 1) := by decide +kernel
theorem d_Mo_account_98 : decode zb_Mo_account 98 = .ok (.ireturn, 1) := by decide +kernel
theorem d_Mo_account_99 : decode zb_Mo_account 99 = .ok (.aload_n 0, 1) := by decide +kernel
theorem d_Mo_account_100 : decode zb_Mo_account 100 = .ok (.iload_n 1, 1) := by decide +kernel
theorem d_Mo_account_101 : decode zb_Mo_account 101 = .ok (.iconst 2, 1) := by decide +kernel
theorem d_Mo_account_102 : decode zb_Mo_account 102 = .ok (.isub, 1) := by decide +kernel
theorem d_Mo_account_103 : decode zb_Mo_account 103 = .ok (.invokevirtual 295, 3) := by decide +kernel
theorem d_Mo_account_106 : decode zb_Mo_account 106 = .ok (.ireturn, 1) := by decide +kernel
theorem d_Mo_account_107 : decode zb_Mo_account 107 = .ok (.aload_n 0, 1) := by decide +kernel
theorem d_Mo_account_108 : decode zb_Mo_account 108 = .ok (.getfield 120, 3) := by decide +kernel
theorem d_Mo_account_111 : decode zb_Mo_account 111 = .ok (.ireturn, 1) := by decide +kernel
theorem d_Mo_account_112 : decode zb_Mo_account 112 = .ok (.aload_n 0, 1) := by decide +kernel
theorem d_Mo_account_113 : decode zb_Mo_account 113 = .ok (.getfield 123, 3) := by decide +kernel
theorem d_Mo_account_116 : decode zb_Mo_account 116 = .ok (.ireturn, 1) := by decide +kernel
theorem d_Mo_account_117 : decode zb_Mo_account 117 = .ok (.aload_n 0, 1) := by decide +kernel
theorem d_Mo_account_118 : decode zb_Mo_account 118 = .ok (.getfield 191, 3) := by decide +kernel
theorem d_Mo_account_121 : decode zb_Mo_account 121 = .ok (.ireturn, 1) := by decide +kernel
theorem d_Mo_account_122 : decode zb_Mo_account 122 = .ok (.aload_n 0, 1) := by decide +kernel
theorem d_Mo_account_123 : decode zb_Mo_account 123 = .ok (.getfield 146, 3) := by decide +kernel
theorem d_Mo_account_126 : decode zb_Mo_account 126 = .ok (.ireturn, 1) := by decide +kernel
theorem d_Mo_account_127 : decode zb_Mo_account 127 = .ok (.aload_n 0, 1) := by decide +kernel
theorem d_Mo_account_128 : decode zb_Mo_account 128 = .ok (.getfield 218, 3) := by decide +kernel
theorem d_Mo_account_131 : decode zb_Mo_account 131 = .ok (.ireturn, 1) := by decide +kernel
theorem d_Mo_account_132 : decode zb_Mo_account 132 = .ok (.iconst 0, 1) := by decide +kernel
theorem d_Mo_account_133 : decode zb_Mo_account 133 = .ok (.istore_n 3, 1) := by decide +kernel
theorem d_Mo_account_134 : decode zb_Mo_account 134 = .ok (.iload_n 3, 1) := by decide +kernel
theorem d_Mo_account_135 : decode zb_Mo_account 135 = .ok (.bipush 100, 2) := by decide +kernel
theorem d_Mo_account_137 : decode zb_Mo_account 137 = .ok (.if_icmp .ge 18, 3) := by decide +kernel
theorem d_Mo_account_140 : decode zb_Mo_account 140 = .ok (.iload_n 2, 1) := by decide +kernel
theorem d_Mo_account_141 : decode zb_Mo_account 141 = .ok (.aload_n 0, 1) := by decide +kernel
theorem d_Mo_account_142 : decode zb_Mo_account 142 = .ok (.getfield 7, 3) := by decide +kernel
theorem d_Mo_account_145 : decode zb_Mo_account 145 = .ok (.iload_n 3, 1) := by decide +kernel
theorem d_Mo_account_146 : decode zb_Mo_account 146 = .ok (.iaload, 1) := by decide +kernel
theorem d_Mo_account_147 : decode zb_Mo_account 147 = .ok (.iadd, 1) := by decide +kernel
theorem d_Mo_account_148 : decode zb_Mo_account 148 = .ok (.istore_n 2, 1) := by decide +kernel
theorem d_Mo_account_149 : decode zb_Mo_account 149 = .ok (.iinc 3 1, 3) := by decide +kernel
theorem d_Mo_account_152 : decode zb_Mo_account 152 = .ok (.goto (-18), 3) := by decide +kernel
theorem d_Mo_account_155 : decode zb_Mo_account 155 = .ok (.iload_n 2, 1) := by decide +kernel
theorem d_Mo_account_156 : decode zb_Mo_account 156 = .ok (.ireturn, 1) := by decide +kernel
theorem d_Mo_account_157 : decode zb_Mo_account 157 = .ok (.aload_n 0, 1) := by decide +kernel
theorem d_Mo_account_158 : decode zb_Mo_account 158 = .ok (.getfield 280, 3) := by decide +kernel
theorem d_Mo_account_161 : decode zb_Mo_account 161 = .ok (.ireturn, 1) := by decide +kernel
theorem d_Mo_account_162 : decode zb_Mo_account 162 = .ok (.iconst (-1), 1) := by decide +kernel
theorem d_Mo_account_163 : decode zb_Mo_account 163 = .ok (.ireturn, 1) := by decide +kernel
def k_Mo_account_67 (x : zsM) (l1 : Int32) : Nat → Int32 → Int32 → Option (Int32)
  | 0, _, _ => none
  | fu + 1, l2, l3 => (if l3 < (x.1 11) then (k_Mo_isDown x l3).bind fun o4 => (if o4 = 0 then k_Mo_account_67 x l1 fu ((l2 + (0 : Int32))) ((l3 + (1 : Int32))) else k_Mo_account_67 x l1 fu ((l2 + (1 : Int32))) ((l3 + (1 : Int32)))) else some l2)
set_option maxRecDepth 20000 in
theorem w_Mo_account_67 {X : zX} {c : zY} {q : Nat → Nat} {x : zsM} {l1 : Int32} {out : Int32} (hX : Ok X zr_Mo zb_Mo_account 4 1 c) (hR : Rt X (some .int) (some (.int out)) (zwM c q x)) : ∀ (fu : Nat) (l2 : Int32) (l3 : Int32), k_Mo_account_67 x l1 fu l2 l3 = some out → Go X (zwM c q x) [(0, .ref ((q 0))), (2, .int l2), (3, .int l3)] 67 [] := by
  intro fu
  induction fu with
  | zero => intro l2 l3 h; rw [k_Mo_account_67] at h; cases h
  | succ fu ih =>
    intro l2 l3 h
    rw [k_Mo_account_67] at h
    refine g_iload_n (pc := 67) hX d_Mo_account_67 rfl 2 rfl ?_
    refine g_aload_n (pc := 68) hX d_Mo_account_68 rfl 0 rfl ?_
    refine gf_Mo_81 (pc := 69) (v := .int ((x.1 11))) hX 0 rfl rfl d_Mo_account_69 ?_
    refine g_icmp_ge (pc := 72) (tgt := 97) hX d_Mo_account_72 (by decide) h (fun c3 h => ?_) (fun c3 h => ?_)
    · refine g_iload_n (pc := 97) hX d_Mo_account_97 rfl 1 rfl ?_
      obtain rfl := Option.some.inj h
      exact g_iret (pc := 98) hX hR d_Mo_account_98
    · refine g_iload_n (pc := 75) hX d_Mo_account_75 rfl 1 rfl ?_
      refine g_aload_n (pc := 76) hX d_Mo_account_76 rfl 0 rfl ?_
      refine g_iload_n (pc := 77) hX d_Mo_account_77 rfl 2 rfl ?_
      obtain ⟨o4, e4, h⟩ := zbind h
      refine g_cvI (pc := 78) (w1 := []) (w2 := []) (st := [.int l2]) (w' := (zwM c q x)) hX zk_Mo_isDown zs_Mo_isDown zL_Mo_110 (c_Mo_isDown c q x l3 e4) rfl rfl rfl rfl (zself _) (zself _).symm 0 10 rfl rfl rfl d_Mo_account_78 ?_
      refine g_if_eq (pc := 81) (tgt := 88) hX d_Mo_account_81 (by decide) h (fun c5 h => ?_) (fun c5 h => ?_)
      · refine g_iconst (pc := 88) hX d_Mo_account_88 zc_0 ?_
        refine g_iadd (pc := 89) hX d_Mo_account_89 ?_
        refine g_istore_n (pc := 90) (L' := [(2, .int ((l2 + (0 : Int32)))), (0, .ref ((q 0))), (3, .int l3)]) hX d_Mo_account_90 rfl rfl rfl ?_
        refine g_iinc (pc := 91) (q := 2) (L' := [(3, .int ((l3 + (1 : Int32)))), (2, .int ((l2 + (0 : Int32)))), (0, .ref ((q 0)))]) hX d_Mo_account_91 rfl zc_1 rfl rfl ?_
        refine g_goto (pc := 94) (tgt := 67) hX d_Mo_account_94 (by decide) ?_
        refine g_ls (L' := [(0, .ref ((q 0))), (2, .int ((l2 + (0 : Int32)))), (3, .int ((l3 + (1 : Int32))))]) [2, 1, 0] rfl ?_
        exact ih _ _ h
      · refine g_iconst (pc := 84) hX d_Mo_account_84 zc_1 ?_
        refine g_goto (pc := 85) (tgt := 89) hX d_Mo_account_85 (by decide) ?_
        refine g_iadd (pc := 89) hX d_Mo_account_89 ?_
        refine g_istore_n (pc := 90) (L' := [(2, .int ((l2 + (1 : Int32)))), (0, .ref ((q 0))), (3, .int l3)]) hX d_Mo_account_90 rfl rfl rfl ?_
        refine g_iinc (pc := 91) (q := 2) (L' := [(3, .int ((l3 + (1 : Int32)))), (2, .int ((l2 + (1 : Int32)))), (0, .ref ((q 0)))]) hX d_Mo_account_91 rfl zc_1 rfl rfl ?_
        refine g_goto (pc := 94) (tgt := 67) hX d_Mo_account_94 (by decide) ?_
        refine g_ls (L' := [(0, .ref ((q 0))), (2, .int ((l2 + (1 : Int32)))), (3, .int ((l3 + (1 : Int32))))]) [2, 1, 0] rfl ?_
        exact ih _ _ h
def k_Mo_account_134 (x : zsM) (l1 : Int32) : Nat → Int32 → Int32 → Option (Int32)
  | 0, _, _ => none
  | fu + 1, l2, l3 => (if l3 < (100 : Int32) then (if zOut l3 100 then none else k_Mo_account_134 x l1 fu ((l2 + (((x.2 0)) l3.toNatClampNeg))) ((l3 + (1 : Int32)))) else some l2)
set_option maxRecDepth 20000 in
theorem w_Mo_account_134 {X : zX} {c : zY} {q : Nat → Nat} {x : zsM} {l1 : Int32} {out : Int32} (hX : Ok X zr_Mo zb_Mo_account 4 1 c) (hR : Rt X (some .int) (some (.int out)) (zwM c q x)) : ∀ (fu : Nat) (l2 : Int32) (l3 : Int32), k_Mo_account_134 x l1 fu l2 l3 = some out → Go X (zwM c q x) [(0, .ref ((q 0))), (2, .int l2), (3, .int l3)] 134 [] := by
  intro fu
  induction fu with
  | zero => intro l2 l3 h; rw [k_Mo_account_134] at h; cases h
  | succ fu ih =>
    intro l2 l3 h
    rw [k_Mo_account_134] at h
    refine g_iload_n (pc := 134) hX d_Mo_account_134 rfl 2 rfl ?_
    refine g_bipush (pc := 135) hX d_Mo_account_135 ze_100 ?_
    refine g_icmp_ge (pc := 137) (tgt := 155) hX d_Mo_account_137 (by decide) h (fun c16 h => ?_) (fun c16 h => ?_)
    · refine g_iload_n (pc := 155) hX d_Mo_account_155 rfl 1 rfl ?_
      obtain rfl := Option.some.inj h
      exact g_iret (pc := 156) hX hR d_Mo_account_156
    · refine g_iload_n (pc := 140) hX d_Mo_account_140 rfl 1 rfl ?_
      refine g_aload_n (pc := 141) hX d_Mo_account_141 rfl 0 rfl ?_
      refine gf_Mo_7 (pc := 142) (v := .ref ((q 1))) hX 0 rfl rfl d_Mo_account_142 ?_
      refine g_iload_n (pc := 145) hX d_Mo_account_145 rfl 2 rfl ?_
      refine g_iald (pc := 146) (f := (x.2 0)) hX 1 rfl h d_Mo_account_146 (fun h => ?_)
      refine g_iadd (pc := 147) hX d_Mo_account_147 ?_
      refine g_istore_n (pc := 148) (L' := [(2, .int ((l2 + (((x.2 0)) l3.toNatClampNeg)))), (0, .ref ((q 0))), (3, .int l3)]) hX d_Mo_account_148 rfl rfl rfl ?_
      refine g_iinc (pc := 149) (q := 2) (L' := [(3, .int ((l3 + (1 : Int32)))), (2, .int ((l2 + (((x.2 0)) l3.toNatClampNeg)))), (0, .ref ((q 0)))]) hX d_Mo_account_149 rfl zc_1 rfl rfl ?_
      refine g_goto (pc := 152) (tgt := 134) hX d_Mo_account_152 (by decide) ?_
      refine g_ls (L' := [(0, .ref ((q 0))), (2, .int ((l2 + (((x.2 0)) l3.toNatClampNeg)))), (3, .int ((l3 + (1 : Int32))))]) [2, 1, 0] rfl ?_
      exact ih _ _ h
def k_Mo_account (x : zsM) (l1 : Int32) : Option (Int32) := (if l1 = (0 : Int32) then some ((x.1 11)) else (if l1 = (1 : Int32) then k_Mo_account_67 x l1 zFu ((0 : Int32)) ((0 : Int32)) else (if l1 = (2 : Int32) then (k_Mo_livesOf x ((l1 - (2 : Int32)))).bind fun o7 => some o7 else (if l1 = (3 : Int32) then (k_Mo_livesOf x ((l1 - (2 : Int32)))).bind fun o9 => some o9 else (if l1 = (4 : Int32) then some ((x.1 17)) else (if l1 = (5 : Int32) then some ((x.1 18)) else (if l1 = (6 : Int32) then some ((x.1 26)) else (if l1 = (7 : Int32) then some ((x.1 27)) else (if l1 = (8 : Int32) then some ((x.1 28)) else (if l1 = (9 : Int32) then k_Mo_account_134 x l1 zFu ((0 : Int32)) ((0 : Int32)) else (if l1 = (10 : Int32) then some ((x.1 29)) else some ((-1 : Int32)))))))))))))
set_option maxRecDepth 20000 in
theorem c_Mo_account (c : zY) (q : Nat → Nat) (x : zsM) (l1 : Int32) {out : Int32} (h : k_Mo_account x l1 = some out) : KM zy_Mo_account zb_Mo_account 4 (some .int) 1 c [.ref ((q 0)), .int l1] (zwM c q x) (zwM c q x) (some (.int out)) := zK_of zp_Mo rfl (Nat.le_of_ble_eq_true rfl) (zq_Mo c q _ _) (fun X hX hR => by
  show Go X (zwM c q x) [(0, .ref ((q 0))), (1, .int l1)] 0 []
  rw [k_Mo_account] at h
  refine g_iconst (pc := 0) hX d_Mo_account_0 zc_0 ?_
  refine g_istore_n (pc := 1) (L' := [(2, .int ((0 : Int32))), (0, .ref ((q 0))), (1, .int l1)]) hX d_Mo_account_1 rfl rfl rfl ?_
  refine g_iload_n (pc := 2) hX d_Mo_account_2 rfl 2 rfl ?_
  by_cases c1 : l1 = (0 : Int32)
  · rw [if_pos c1] at h
    refine g_tswIn (pc := 3) (tgt := 60) (off := 57) hX d_Mo_account_3 (0 : Int32) c1 (by decide) (by decide) rfl (by decide) ?_
    refine g_aload_n (pc := 60) hX d_Mo_account_60 rfl 1 rfl ?_
    refine gf_Mo_81 (pc := 61) (v := .int ((x.1 11))) hX 0 rfl rfl d_Mo_account_61 ?_
    obtain rfl := Option.some.inj h
    exact g_iret (pc := 64) hX hR d_Mo_account_64
  rw [if_neg c1] at h
  by_cases c2 : l1 = (1 : Int32)
  · rw [if_pos c2] at h
    refine g_tswIn (pc := 3) (tgt := 65) (off := 62) hX d_Mo_account_3 (1 : Int32) c2 (by decide) (by decide) rfl (by decide) ?_
    refine g_iconst (pc := 65) hX d_Mo_account_65 zc_0 ?_
    refine g_istore_n (pc := 66) (L' := [(3, .int ((0 : Int32))), (2, .int ((0 : Int32))), (0, .ref ((q 0))), (1, .int l1)]) hX d_Mo_account_66 rfl rfl rfl ?_
    refine g_ls (L' := [(0, .ref ((q 0))), (2, .int ((0 : Int32))), (3, .int ((0 : Int32)))]) [2, 1, 0] rfl ?_
    exact w_Mo_account_67 hX hR _ _ _ h
  rw [if_neg c2] at h
  by_cases c6 : l1 = (2 : Int32)
  · rw [if_pos c6] at h
    refine g_tswIn (pc := 3) (tgt := 99) (off := 96) hX d_Mo_account_3 (2 : Int32) c6 (by decide) (by decide) rfl (by decide) ?_
    refine g_aload_n (pc := 99) hX d_Mo_account_99 rfl 1 rfl ?_
    refine g_iload_n (pc := 100) hX d_Mo_account_100 rfl 2 rfl ?_
    refine g_iconst (pc := 101) hX d_Mo_account_101 zc_2 ?_
    refine g_isub (pc := 102) hX d_Mo_account_102 ?_
    obtain ⟨o7, e7, h⟩ := zbind h
    refine g_cvI (pc := 103) (w1 := []) (w2 := []) (st := []) (w' := (zwM c q x)) hX zk_Mo_livesOf zs_Mo_livesOf zL_Mo_295 (c_Mo_livesOf c q x ((l1 - (2 : Int32))) e7) rfl rfl rfl rfl (zself _) (zself _).symm 0 10 rfl rfl rfl d_Mo_account_103 ?_
    obtain rfl := Option.some.inj h
    exact g_iret (pc := 106) hX hR d_Mo_account_106
  rw [if_neg c6] at h
  by_cases c8 : l1 = (3 : Int32)
  · rw [if_pos c8] at h
    refine g_tswIn (pc := 3) (tgt := 99) (off := 96) hX d_Mo_account_3 (3 : Int32) c8 (by decide) (by decide) rfl (by decide) ?_
    refine g_aload_n (pc := 99) hX d_Mo_account_99 rfl 1 rfl ?_
    refine g_iload_n (pc := 100) hX d_Mo_account_100 rfl 2 rfl ?_
    refine g_iconst (pc := 101) hX d_Mo_account_101 zc_2 ?_
    refine g_isub (pc := 102) hX d_Mo_account_102 ?_
    obtain ⟨o9, e9, h⟩ := zbind h
    refine g_cvI (pc := 103) (w1 := []) (w2 := []) (st := []) (w' := (zwM c q x)) hX zk_Mo_livesOf zs_Mo_livesOf zL_Mo_295 (c_Mo_livesOf c q x ((l1 - (2 : Int32))) e9) rfl rfl rfl rfl (zself _) (zself _).symm 0 10 rfl rfl rfl d_Mo_account_103 ?_
    obtain rfl := Option.some.inj h
    exact g_iret (pc := 106) hX hR d_Mo_account_106
  rw [if_neg c8] at h
  by_cases c10 : l1 = (4 : Int32)
  · rw [if_pos c10] at h
    refine g_tswIn (pc := 3) (tgt := 107) (off := 104) hX d_Mo_account_3 (4 : Int32) c10 (by decide) (by decide) rfl (by decide) ?_
    refine g_aload_n (pc := 107) hX d_Mo_account_107 rfl 1 rfl ?_
    refine gf_Mo_120 (pc := 108) (v := .int ((x.1 17))) hX 0 rfl rfl d_Mo_account_108 ?_
    obtain rfl := Option.some.inj h
    exact g_iret (pc := 111) hX hR d_Mo_account_111
  rw [if_neg c10] at h
  by_cases c11 : l1 = (5 : Int32)
  · rw [if_pos c11] at h
    refine g_tswIn (pc := 3) (tgt := 112) (off := 109) hX d_Mo_account_3 (5 : Int32) c11 (by decide) (by decide) rfl (by decide) ?_
    refine g_aload_n (pc := 112) hX d_Mo_account_112 rfl 1 rfl ?_
    refine gf_Mo_123 (pc := 113) (v := .int ((x.1 18))) hX 0 rfl rfl d_Mo_account_113 ?_
    obtain rfl := Option.some.inj h
    exact g_iret (pc := 116) hX hR d_Mo_account_116
  rw [if_neg c11] at h
  by_cases c12 : l1 = (6 : Int32)
  · rw [if_pos c12] at h
    refine g_tswIn (pc := 3) (tgt := 117) (off := 114) hX d_Mo_account_3 (6 : Int32) c12 (by decide) (by decide) rfl (by decide) ?_
    refine g_aload_n (pc := 117) hX d_Mo_account_117 rfl 1 rfl ?_
    refine gf_Mo_191 (pc := 118) (v := .int ((x.1 26))) hX 0 rfl rfl d_Mo_account_118 ?_
    obtain rfl := Option.some.inj h
    exact g_iret (pc := 121) hX hR d_Mo_account_121
  rw [if_neg c12] at h
  by_cases c13 : l1 = (7 : Int32)
  · rw [if_pos c13] at h
    refine g_tswIn (pc := 3) (tgt := 122) (off := 119) hX d_Mo_account_3 (7 : Int32) c13 (by decide) (by decide) rfl (by decide) ?_
    refine g_aload_n (pc := 122) hX d_Mo_account_122 rfl 1 rfl ?_
    refine gf_Mo_146 (pc := 123) (v := .int ((x.1 27))) hX 0 rfl rfl d_Mo_account_123 ?_
    obtain rfl := Option.some.inj h
    exact g_iret (pc := 126) hX hR d_Mo_account_126
  rw [if_neg c13] at h
  by_cases c14 : l1 = (8 : Int32)
  · rw [if_pos c14] at h
    refine g_tswIn (pc := 3) (tgt := 127) (off := 124) hX d_Mo_account_3 (8 : Int32) c14 (by decide) (by decide) rfl (by decide) ?_
    refine g_aload_n (pc := 127) hX d_Mo_account_127 rfl 1 rfl ?_
    refine gf_Mo_218 (pc := 128) (v := .int ((x.1 28))) hX 0 rfl rfl d_Mo_account_128 ?_
    obtain rfl := Option.some.inj h
    exact g_iret (pc := 131) hX hR d_Mo_account_131
  rw [if_neg c14] at h
  by_cases c15 : l1 = (9 : Int32)
  · rw [if_pos c15] at h
    refine g_tswIn (pc := 3) (tgt := 132) (off := 129) hX d_Mo_account_3 (9 : Int32) c15 (by decide) (by decide) rfl (by decide) ?_
    refine g_iconst (pc := 132) hX d_Mo_account_132 zc_0 ?_
    refine g_istore_n (pc := 133) (L' := [(3, .int ((0 : Int32))), (2, .int ((0 : Int32))), (0, .ref ((q 0))), (1, .int l1)]) hX d_Mo_account_133 rfl rfl rfl ?_
    refine g_ls (L' := [(0, .ref ((q 0))), (2, .int ((0 : Int32))), (3, .int ((0 : Int32)))]) [2, 1, 0] rfl ?_
    exact w_Mo_account_134 hX hR _ _ _ h
  rw [if_neg c15] at h
  by_cases c17 : l1 = (10 : Int32)
  · rw [if_pos c17] at h
    refine g_tswIn (pc := 3) (tgt := 157) (off := 154) hX d_Mo_account_3 (10 : Int32) c17 (by decide) (by decide) rfl (by decide) ?_
    refine g_aload_n (pc := 157) hX d_Mo_account_157 rfl 1 rfl ?_
    refine gf_Mo_280 (pc := 158) (v := .int ((x.1 29))) hX 0 rfl rfl d_Mo_account_158 ?_
    obtain rfl := Option.some.inj h
    exact g_iret (pc := 161) hX hR d_Mo_account_161
  rw [if_neg c17] at h
  refine g_tswOut (pc := 3) (tgt := 162) hX d_Mo_account_3 (by have a1 := lv_neT c1 (a := 0) (by decide); have a2 := lv_neT c2 (a := 1) (by decide); have a6 := lv_neT c6 (a := 2) (by decide); have a8 := lv_neT c8 (a := 3) (by decide); have a10 := lv_neT c10 (a := 4) (by decide); have a11 := lv_neT c11 (a := 5) (by decide); have a12 := lv_neT c12 (a := 6) (by decide); have a13 := lv_neT c13 (a := 7) (by decide); have a14 := lv_neT c14 (a := 8) (by decide); have a15 := lv_neT c15 (a := 9) (by decide); have a17 := lv_neT c17 (a := 10) (by decide); omega) (by decide) ?_
  refine g_iconst (pc := 162) hX d_Mo_account_162 zc_m1 ?_
  obtain rfl := Option.some.inj h
  exact g_iret (pc := 163) hX hR d_Mo_account_163)
theorem d_Mo_back_0 : decode zb_Mo_back 0 = .ok (.aload_n 0, 1) := by decide +kernel
theorem d_Mo_back_1 : decode zb_Mo_back 1 = .ok (.getfield 317, 3) := by decide +kernel
theorem d_Mo_back_4 : decode zb_Mo_back 4 = .ok (.ifCond .ne 10, 3) := by decide +kernel
theorem d_Mo_back_7 : decode zb_Mo_back 7 = .ok (.aload_n 0, 1) := by decide +kernel
theorem d_Mo_back_8 : decode zb_Mo_back 8 = .ok (.bipush 10, 2) := by decide +kernel
theorem d_Mo_back_10 : decode zb_Mo_back 10 = .ok (.invokevirtual 172, 3) := by decide +kernel
theorem d_Mo_back_13 : decode zb_Mo_back 13 = .ok (.ireturn, 1) := by decide +kernel
theorem d_Mo_back_14 : decode zb_Mo_back 14 = .ok (.aload_n 0, 1) := by decide +kernel
theorem d_Mo_back_15 : decode zb_Mo_back 15 = .ok (.dup, 1) := by decide +kernel
theorem d_Mo_back_16 : decode zb_Mo_back 16 = .ok (.getfield 317, 3) := by decide +kernel
theorem d_Mo_back_19 : decode zb_Mo_back 19 = .ok (.iconst 1, 1) := by decide +kernel
theorem d_Mo_back_20 : decode zb_Mo_back 20 = .ok (.isub, 1) := by decide +kernel
theorem d_Mo_back_21 : decode zb_Mo_back 21 = .ok (.putfield 317, 3) := by decide +kernel
theorem d_Mo_back_24 : decode zb_Mo_back 24 = .ok (.aload_n 0, 1) := by decide +kernel
theorem d_Mo_back_25 : decode zb_Mo_back 25 = .ok (.aload_n 0, 1) := by decide +kernel
theorem d_Mo_back_26 : decode zb_Mo_back 26 = .ok (.getfield 75, 3) := by decide +kernel
theorem d_Mo_back_29 : decode zb_Mo_back 29 = .ok (.sipush 1013, 3) := by decide +kernel
theorem d_Mo_back_32 : decode zb_Mo_back 32 = .ok (.aload_n 0, 1) := by decide +kernel
theorem d_Mo_back_33 : decode zb_Mo_back 33 = .ok (.getfield 317, 3) := by decide +kernel
theorem d_Mo_back_36 : decode zb_Mo_back 36 = .ok (.imul, 1) := by decide +kernel
theorem d_Mo_back_37 : decode zb_Mo_back 37 = .ok (.iconst 0, 1) := by decide +kernel
theorem d_Mo_back_38 : decode zb_Mo_back 38 = .ok (.invokevirtual 320, 3) := by decide +kernel
theorem d_Mo_back_41 : decode zb_Mo_back 41 = .ok (.aload_n 0, 1) := by decide +kernel
theorem d_Mo_back_42 : decode zb_Mo_back 42 = .ok (.getfield 317, 3) := by decide +kernel
theorem d_Mo_back_45 : decode zb_Mo_back 45 = .ok (.ireturn, 1) := by decide +kernel
def k_Mo_back (x : zsM) : Option (Int32 × zsM) := (if (x.1 42) = 0 then (k_Mo_refuses x ((10 : Int32))).bind fun o3 => some (o3.1, o3.2) else (k_Mo_passAll_e (((upd x.1 42 (((x.1 42) - (1 : Int32)))), x.2)) (((1013 : Int32) * (((x.1 42) - (1 : Int32))))) ((0 : Int32))).bind fun o2 => some ((o2.1 42), o2))
set_option maxRecDepth 20000 in
theorem c_Mo_back (c : zY) (q : Nat → Nat) (x : zsM) {out : Int32 × zsM} (h : k_Mo_back x = some out) : KM zy_Mo_back zb_Mo_back 1 (some .int) 3 c [.ref ((q 0))] (zwM c q x) (zwM c q out.2) (some (.int out.1)) := zK_of zp_Mo rfl (Nat.le_of_ble_eq_true rfl) (zq_Mo c q _ _) (fun X hX hR => by
  show Go X (zwM c q x) [(0, .ref ((q 0)))] 0 []
  rw [k_Mo_back] at h
  refine g_aload_n (pc := 0) hX d_Mo_back_0 rfl 0 rfl ?_
  refine gf_Mo_317 (pc := 1) (v := .int ((x.1 42))) hX 0 rfl rfl d_Mo_back_1 ?_
  refine g_if_ne (pc := 4) (tgt := 14) hX d_Mo_back_4 (by decide) h (fun c1 h => ?_) (fun c1 h => ?_)
  · refine g_aload_n (pc := 14) hX d_Mo_back_14 rfl 0 rfl ?_
    refine g_dup (pc := 15) hX d_Mo_back_15 rfl ?_
    refine gf_Mo_317 (pc := 16) (v := .int ((x.1 42))) hX 0 rfl rfl d_Mo_back_16 ?_
    refine g_iconst (pc := 19) hX d_Mo_back_19 zc_1 ?_
    refine g_isub (pc := 20) hX d_Mo_back_20 ?_
    refine pf_Mo_317 (pc := 21) (w2 := (zwM c q (((upd x.1 42 (((x.1 42) - (1 : Int32)))), x.2)))) hX 0 rfl rfl (su_Mo_0_42 c q x (((x.1 42) - (1 : Int32)))) d_Mo_back_21 ?_
    refine g_aload_n (pc := 24) hX d_Mo_back_24 rfl 0 rfl ?_
    refine g_aload_n (pc := 25) hX d_Mo_back_25 rfl 0 rfl ?_
    refine gf_Mo_75 (pc := 26) (v := .ref ((q 21))) hX 0 rfl rfl d_Mo_back_26 ?_
    refine g_sipush (pc := 29) hX d_Mo_back_29 zh_1013 ?_
    refine g_aload_n (pc := 32) hX d_Mo_back_32 rfl 0 rfl ?_
    refine gf_Mo_317 (pc := 33) (v := .int ((((x.1 42) - (1 : Int32))))) hX 0 rfl rfl d_Mo_back_33 ?_
    refine g_imul (pc := 36) hX d_Mo_back_36 ?_
    refine g_iconst (pc := 37) hX d_Mo_back_37 zc_0 ?_
    obtain ⟨o2, e2, h⟩ := zbind h
    refine g_cvV (pc := 38) (w1 := []) (w2 := []) (st := []) (w' := (zwM c q o2)) hX zk_Mo_passAll zs_Mo_passAll zL_Mo_320 (c_Mo_passAll_e c q (((upd x.1 42 (((x.1 42) - (1 : Int32)))), x.2)) (((1013 : Int32) * (((x.1 42) - (1 : Int32))))) ((0 : Int32)) e2) rfl rfl rfl rfl (zself _) (zself _).symm 0 10 rfl rfl rfl d_Mo_back_38 ?_
    refine g_aload_n (pc := 41) hX d_Mo_back_41 rfl 0 rfl ?_
    refine gf_Mo_317 (pc := 42) (v := .int ((o2.1 42))) hX 0 rfl rfl d_Mo_back_42 ?_
    obtain rfl := Option.some.inj h
    exact g_iret (pc := 45) hX hR d_Mo_back_45
  · refine g_aload_n (pc := 7) hX d_Mo_back_7 rfl 0 rfl ?_
    refine g_bipush (pc := 8) hX d_Mo_back_8 ze_10 ?_
    obtain ⟨o3, e3, h⟩ := zbind h
    refine g_cvI (pc := 10) (w1 := []) (w2 := []) (st := []) (w' := (zwM c q o3.2)) hX zk_Mo_refuses zs_Mo_refuses zL_Mo_172 (c_Mo_refuses c q x ((10 : Int32)) e3) rfl rfl rfl rfl (zself _) (zself _).symm 0 10 rfl rfl rfl d_Mo_back_10 ?_
    obtain rfl := Option.some.inj h
    exact g_iret (pc := 13) hX hR d_Mo_back_13)
theorem d_Mo_image_0 : decode zb_Mo_image 0 = .ok (.aload_n 0, 1) := by decide +kernel
theorem d_Mo_image_1 : decode zb_Mo_image 1 = .ok (.iconst 1, 1) := by decide +kernel
theorem d_Mo_image_2 : decode zb_Mo_image 2 = .ok (.putfield 324, 3) := by decide +kernel
theorem d_Mo_image_5 : decode zb_Mo_image 5 = .ok (.aload_n 0, 1) := by decide +kernel
theorem d_Mo_image_6 : decode zb_Mo_image 6 = .ok (.aload_n 0, 1) := by decide +kernel
theorem d_Mo_image_7 : decode zb_Mo_image 7 = .ok (.getfield 78, 3) := by decide +kernel
theorem d_Mo_image_10 : decode zb_Mo_image 10 = .ok (.iconst 0, 1) := by decide +kernel
theorem d_Mo_image_11 : decode zb_Mo_image 11 = .ok (.iconst 1, 1) := by decide +kernel
theorem d_Mo_image_12 : decode zb_Mo_image 12 = .ok (.invokevirtual 320, 3) := by decide +kernel
theorem d_Mo_image_15 : decode zb_Mo_image 15 = .ok (.aload_n 0, 1) := by decide +kernel
theorem d_Mo_image_16 : decode zb_Mo_image 16 = .ok (.getfield 81, 3) := by decide +kernel
theorem d_Mo_image_19 : decode zb_Mo_image 19 = .ok (.ireturn, 1) := by decide +kernel
def k_Mo_image (x : zsM) : Option (Int32 × zsM) := (k_Mo_passAll_s (((upd x.1 44 ((1 : Int32))), x.2)) ((0 : Int32)) ((1 : Int32))).bind fun o1 => some ((o1.1 11), o1)
set_option maxRecDepth 20000 in
theorem c_Mo_image (c : zY) (q : Nat → Nat) (x : zsM) {out : Int32 × zsM} (h : k_Mo_image x = some out) : KM zy_Mo_image zb_Mo_image 1 (some .int) 3 c [.ref ((q 0))] (zwM c q x) (zwM c q out.2) (some (.int out.1)) := zK_of zp_Mo rfl (Nat.le_of_ble_eq_true rfl) (zq_Mo c q _ _) (fun X hX hR => by
  show Go X (zwM c q x) [(0, .ref ((q 0)))] 0 []
  rw [k_Mo_image] at h
  refine g_aload_n (pc := 0) hX d_Mo_image_0 rfl 0 rfl ?_
  refine g_iconst (pc := 1) hX d_Mo_image_1 zc_1 ?_
  refine pf_Mo_324 (pc := 2) (w2 := (zwM c q (((upd x.1 44 ((1 : Int32))), x.2)))) hX (Or.inr rfl) 0 rfl rfl (su_Mo_0_44 c q x ((1 : Int32))) d_Mo_image_2 ?_
  refine g_aload_n (pc := 5) hX d_Mo_image_5 rfl 0 rfl ?_
  refine g_aload_n (pc := 6) hX d_Mo_image_6 rfl 0 rfl ?_
  refine gf_Mo_78 (pc := 7) (v := .ref ((q 22))) hX 0 rfl rfl d_Mo_image_7 ?_
  refine g_iconst (pc := 10) hX d_Mo_image_10 zc_0 ?_
  refine g_iconst (pc := 11) hX d_Mo_image_11 zc_1 ?_
  obtain ⟨o1, e1, h⟩ := zbind h
  refine g_cvV (pc := 12) (w1 := []) (w2 := []) (st := []) (w' := (zwM c q o1)) hX zk_Mo_passAll zs_Mo_passAll zL_Mo_320 (c_Mo_passAll_s c q (((upd x.1 44 ((1 : Int32))), x.2)) ((0 : Int32)) ((1 : Int32)) e1) rfl rfl rfl rfl (zself _) (zself _).symm 0 10 rfl rfl rfl d_Mo_image_12 ?_
  refine g_aload_n (pc := 15) hX d_Mo_image_15 rfl 0 rfl ?_
  refine gf_Mo_81 (pc := 16) (v := .int ((o1.1 11))) hX 0 rfl rfl d_Mo_image_16 ?_
  obtain rfl := Option.some.inj h
  exact g_iret (pc := 19) hX hR d_Mo_image_19)
theorem d_Mo_undo_0 : decode zb_Mo_undo 0 = .ok (.aload_n 0, 1) := by decide +kernel
theorem d_Mo_undo_1 : decode zb_Mo_undo 1 = .ok (.getfield 324, 3) := by decide +kernel
theorem d_Mo_undo_4 : decode zb_Mo_undo 4 = .ok (.ifCond .ne 10, 3) := by decide +kernel
theorem d_Mo_undo_7 : decode zb_Mo_undo 7 = .ok (.aload_n 0, 1) := by decide +kernel
theorem d_Mo_undo_8 : decode zb_Mo_undo 8 = .ok (.bipush 10, 2) := by decide +kernel
theorem d_Mo_undo_10 : decode zb_Mo_undo 10 = .ok (.invokevirtual 172, 3) := by decide +kernel
theorem d_Mo_undo_13 : decode zb_Mo_undo 13 = .ok (.ireturn, 1) := by decide +kernel
theorem d_Mo_undo_14 : decode zb_Mo_undo 14 = .ok (.aload_n 0, 1) := by decide +kernel
theorem d_Mo_undo_15 : decode zb_Mo_undo 15 = .ok (.aload_n 0, 1) := by decide +kernel
theorem d_Mo_undo_16 : decode zb_Mo_undo 16 = .ok (.getfield 78, 3) := by decide +kernel
theorem d_Mo_undo_19 : decode zb_Mo_undo 19 = .ok (.iconst 0, 1) := by decide +kernel
theorem d_Mo_undo_20 : decode zb_Mo_undo 20 = .ok (.iconst 0, 1) := by decide +kernel
theorem d_Mo_undo_21 : decode zb_Mo_undo 21 = .ok (.invokevirtual 320, 3) := by decide +kernel
theorem d_Mo_undo_24 : decode zb_Mo_undo 24 = .ok (.aload_n 0, 1) := by decide +kernel
theorem d_Mo_undo_25 : decode zb_Mo_undo 25 = .ok (.iconst 0, 1) := by decide +kernel
theorem d_Mo_undo_26 : decode zb_Mo_undo 26 = .ok (.putfield 317, 3) := by decide +kernel
theorem d_Mo_undo_29 : decode zb_Mo_undo 29 = .ok (.aload_n 0, 1) := by decide +kernel
theorem d_Mo_undo_30 : decode zb_Mo_undo 30 = .ok (.getfield 81, 3) := by decide +kernel
theorem d_Mo_undo_33 : decode zb_Mo_undo 33 = .ok (.ireturn, 1) := by decide +kernel
def k_Mo_undo (x : zsM) : Option (Int32 × zsM) := (if (x.1 44) = 0 then (k_Mo_refuses x ((10 : Int32))).bind fun o3 => some (o3.1, o3.2) else (k_Mo_passAll_s x ((0 : Int32)) ((0 : Int32))).bind fun o2 => some ((o2.1 11), ((upd o2.1 42 ((0 : Int32))), o2.2)))
set_option maxRecDepth 20000 in
theorem c_Mo_undo (c : zY) (q : Nat → Nat) (x : zsM) {out : Int32 × zsM} (h : k_Mo_undo x = some out) : KM zy_Mo_undo zb_Mo_undo 1 (some .int) 3 c [.ref ((q 0))] (zwM c q x) (zwM c q out.2) (some (.int out.1)) := zK_of zp_Mo rfl (Nat.le_of_ble_eq_true rfl) (zq_Mo c q _ _) (fun X hX hR => by
  show Go X (zwM c q x) [(0, .ref ((q 0)))] 0 []
  rw [k_Mo_undo] at h
  refine g_aload_n (pc := 0) hX d_Mo_undo_0 rfl 0 rfl ?_
  refine gf_Mo_324 (pc := 1) (v := .int ((x.1 44))) hX 0 rfl rfl d_Mo_undo_1 ?_
  refine g_if_ne (pc := 4) (tgt := 14) hX d_Mo_undo_4 (by decide) h (fun c1 h => ?_) (fun c1 h => ?_)
  · refine g_aload_n (pc := 14) hX d_Mo_undo_14 rfl 0 rfl ?_
    refine g_aload_n (pc := 15) hX d_Mo_undo_15 rfl 0 rfl ?_
    refine gf_Mo_78 (pc := 16) (v := .ref ((q 22))) hX 0 rfl rfl d_Mo_undo_16 ?_
    refine g_iconst (pc := 19) hX d_Mo_undo_19 zc_0 ?_
    refine g_iconst (pc := 20) hX d_Mo_undo_20 zc_0 ?_
    obtain ⟨o2, e2, h⟩ := zbind h
    refine g_cvV (pc := 21) (w1 := []) (w2 := []) (st := []) (w' := (zwM c q o2)) hX zk_Mo_passAll zs_Mo_passAll zL_Mo_320 (c_Mo_passAll_s c q x ((0 : Int32)) ((0 : Int32)) e2) rfl rfl rfl rfl (zself _) (zself _).symm 0 10 rfl rfl rfl d_Mo_undo_21 ?_
    refine g_aload_n (pc := 24) hX d_Mo_undo_24 rfl 0 rfl ?_
    refine g_iconst (pc := 25) hX d_Mo_undo_25 zc_0 ?_
    refine pf_Mo_317 (pc := 26) (w2 := (zwM c q (((upd o2.1 42 ((0 : Int32))), o2.2)))) hX 0 rfl rfl (su_Mo_0_42 c q o2 ((0 : Int32))) d_Mo_undo_26 ?_
    refine g_aload_n (pc := 29) hX d_Mo_undo_29 rfl 0 rfl ?_
    refine gf_Mo_81 (pc := 30) (v := .int ((o2.1 11))) hX 0 rfl rfl d_Mo_undo_30 ?_
    obtain rfl := Option.some.inj h
    exact g_iret (pc := 33) hX hR d_Mo_undo_33
  · refine g_aload_n (pc := 7) hX d_Mo_undo_7 rfl 0 rfl ?_
    refine g_bipush (pc := 8) hX d_Mo_undo_8 ze_10 ?_
    obtain ⟨o3, e3, h⟩ := zbind h
    refine g_cvI (pc := 10) (w1 := []) (w2 := []) (st := []) (w' := (zwM c q o3.2)) hX zk_Mo_refuses zs_Mo_refuses zL_Mo_172 (c_Mo_refuses c q x ((10 : Int32)) e3) rfl rfl rfl rfl (zself _) (zself _).symm 0 10 rfl rfl rfl d_Mo_undo_10 ?_
    obtain rfl := Option.some.inj h
    exact g_iret (pc := 13) hX hR d_Mo_undo_13)
theorem d_Mo_count_0 : decode zb_Mo_count 0 = .ok (.iload_n 1, 1) := by decide +kernel
theorem d_Mo_count_1 : decode zb_Mo_count 1 = .ok (.ifCond .ne 10, 3) := by decide +kernel
theorem d_Mo_count_4 : decode zb_Mo_count 4 = .ok (.aload_n 0, 1) := by decide +kernel
theorem d_Mo_count_5 : decode zb_Mo_count 5 = .ok (.getfield 224, 3) := by decide +kernel
theorem d_Mo_count_8 : decode zb_Mo_count 8 = .ok (.goto 28, 3) := by decide +kernel
theorem d_Mo_count_11 : decode zb_Mo_count 11 = .ok (.iload_n 1, 1) := by decide +kernel
theorem d_Mo_count_12 : decode zb_Mo_count 12 = .ok (.iconst 1, 1) := by decide +kernel
theorem d_Mo_count_13 : decode zb_Mo_count 13 = .ok (.if_icmp .ne 10, 3) := by decide +kernel
theorem d_Mo_count_16 : decode zb_Mo_count 16 = .ok (.aload_n 0, 1) := by decide +kernel
theorem d_Mo_count_17 : decode zb_Mo_count 17 = .ok (.getfield 317, 3) := by decide +kernel
theorem d_Mo_count_20 : decode zb_Mo_count 20 = .ok (.goto 16, 3) := by decide +kernel
theorem d_Mo_count_23 : decode zb_Mo_count 23 = .ok (.iload_n 1, 1) := by decide +kernel
theorem d_Mo_count_24 : decode zb_Mo_count 24 = .ok (.iconst 2, 1) := by decide +kernel
theorem d_Mo_count_25 : decode zb_Mo_count 25 = .ok (.if_icmp .ne 10, 3) := by decide +kernel
theorem d_Mo_count_28 : decode zb_Mo_count 28 = .ok (.aload_n 0, 1) := by decide +kernel
theorem d_Mo_count_29 : decode zb_Mo_count 29 = .ok (.getfield 253, 3) := by decide +kernel
theorem d_Mo_count_32 : decode zb_Mo_count 32 = .ok (.goto 4, 3) := by decide +kernel
theorem d_Mo_count_35 : decode zb_Mo_count 35 = .ok (.iconst (-1), 1) := by decide +kernel
theorem d_Mo_count_36 : decode zb_Mo_count 36 = .ok (.ireturn, 1) := by decide +kernel
def k_Mo_count (x : zsM) (l1 : Int32) : Option (Int32) := (if l1 = 0 then some ((x.1 36)) else (if l1 = (1 : Int32) then some ((x.1 42)) else (if l1 = (2 : Int32) then some ((x.1 38)) else some ((-1 : Int32)))))
set_option maxRecDepth 20000 in
theorem c_Mo_count (c : zY) (q : Nat → Nat) (x : zsM) (l1 : Int32) {out : Int32} (h : k_Mo_count x l1 = some out) : KM zy_Mo_count zb_Mo_count 2 (some .int) 0 c [.ref ((q 0)), .int l1] (zwM c q x) (zwM c q x) (some (.int out)) := zK_of zp_Mo rfl (Nat.le_of_ble_eq_true rfl) (zq_Mo c q _ _) (fun X hX hR => by
  show Go X (zwM c q x) [(0, .ref ((q 0))), (1, .int l1)] 0 []
  rw [k_Mo_count] at h
  refine g_iload_n (pc := 0) hX d_Mo_count_0 rfl 1 rfl ?_
  refine g_if_ne (pc := 1) (tgt := 11) hX d_Mo_count_1 (by decide) h (fun c1 h => ?_) (fun c1 h => ?_)
  · refine g_iload_n (pc := 11) hX d_Mo_count_11 rfl 1 rfl ?_
    refine g_iconst (pc := 12) hX d_Mo_count_12 zc_1 ?_
    refine g_icmp_ne (pc := 13) (tgt := 23) hX d_Mo_count_13 (by decide) h (fun c2 h => ?_) (fun c2 h => ?_)
    · refine g_iload_n (pc := 23) hX d_Mo_count_23 rfl 1 rfl ?_
      refine g_iconst (pc := 24) hX d_Mo_count_24 zc_2 ?_
      refine g_icmp_ne (pc := 25) (tgt := 35) hX d_Mo_count_25 (by decide) h (fun c3 h => ?_) (fun c3 h => ?_)
      · refine g_iconst (pc := 35) hX d_Mo_count_35 zc_m1 ?_
        obtain rfl := Option.some.inj h
        exact g_iret (pc := 36) hX hR d_Mo_count_36
      · refine g_aload_n (pc := 28) hX d_Mo_count_28 rfl 0 rfl ?_
        refine gf_Mo_253 (pc := 29) (v := .int ((x.1 38))) hX 0 rfl rfl d_Mo_count_29 ?_
        refine g_goto (pc := 32) (tgt := 36) hX d_Mo_count_32 (by decide) ?_
        obtain rfl := Option.some.inj h
        exact g_iret (pc := 36) hX hR d_Mo_count_36
    · refine g_aload_n (pc := 16) hX d_Mo_count_16 rfl 0 rfl ?_
      refine gf_Mo_317 (pc := 17) (v := .int ((x.1 42))) hX 0 rfl rfl d_Mo_count_17 ?_
      refine g_goto (pc := 20) (tgt := 36) hX d_Mo_count_20 (by decide) ?_
      obtain rfl := Option.some.inj h
      exact g_iret (pc := 36) hX hR d_Mo_count_36
  · refine g_aload_n (pc := 4) hX d_Mo_count_4 rfl 0 rfl ?_
    refine gf_Mo_224 (pc := 5) (v := .int ((x.1 36))) hX 0 rfl rfl d_Mo_count_5 ?_
    refine g_goto (pc := 8) (tgt := 36) hX d_Mo_count_8 (by decide) ?_
    obtain rfl := Option.some.inj h
    exact g_iret (pc := 36) hX hR d_Mo_count_36)
