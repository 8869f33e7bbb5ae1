theorem d_EL_refuse_0 : decode zb_EL_refuse 0 = .ok (.aload_n 0, 1) := by decide +kernel
theorem d_EL_refuse_1 : decode zb_EL_refuse 1 = .ok (.iload_n 1, 1) := by decide +kernel
theorem d_EL_refuse_2 : decode zb_EL_refuse 2 = .ok (.putfield 44, 3) := by decide +kernel
theorem d_EL_refuse_5 : decode zb_EL_refuse 5 = .ok (.bipush (-3), 2) := by decide +kernel
theorem d_EL_refuse_7 : decode zb_EL_refuse 7 = .ok (.ireturn, 1) := by decide +kernel
def k_EL_refuse (x : zsX) (l1 : Int32) : Option (Int32 × zsX) := some ((-3 : Int32), (x.1, x.2.1, l1, x.2.2.2.1, x.2.2.2.2.1, x.2.2.2.2.2.1, x.2.2.2.2.2.2))
set_option maxRecDepth 20000 in
theorem c_EL_refuse (c : zY) (q : Nat → Nat) (x : zsX) (l1 : Int32) {out : Int32 × zsX} (h : k_EL_refuse x l1 = some out) : KM zy_EL_refuse zb_EL_refuse 2 (some .int) 0 c [.ref ((q 17)), .int l1] (zwX c q x) (zwX c q out.2) (some (.int out.1)) := zK_of zp_EL rfl (Nat.le_of_ble_eq_true rfl) (zq_EL c q _ _) (fun X hX hR => by
  show Go X (zwX c q x) [(0, .ref ((q 17))), (1, .int l1)] 0 []
  rw [k_EL_refuse] at h
  refine g_aload_n (pc := 0) hX d_EL_refuse_0 rfl 0 rfl ?_
  refine g_iload_n (pc := 1) hX d_EL_refuse_1 rfl 1 rfl ?_
  refine pf_EL_44 (pc := 2) (w2 := (zwX c q ((x.1, x.2.1, l1, x.2.2.2.1, x.2.2.2.2.1, x.2.2.2.2.2.1, x.2.2.2.2.2.2)))) hX 3 rfl rfl (su_EL_3_6 c q x l1) d_EL_refuse_2 ?_
  refine g_bipush (pc := 5) hX d_EL_refuse_5 ze_m3 ?_
  obtain rfl := Option.some.inj h
  exact g_iret (pc := 7) hX hR d_EL_refuse_7)
theorem d_EL_add_0 : decode zb_EL_add 0 = .ok (.iload_n 1, 1) := by decide +kernel
theorem d_EL_add_1 : decode zb_EL_add 1 = .ok (.ifCond .lt 15, 3) := by decide +kernel
theorem d_EL_add_4 : decode zb_EL_add 4 = .ok (.iload_n 1, 1) := by decide +kernel
theorem d_EL_add_5 : decode zb_EL_add 5 = .ok (.iconst 1, 1) := by decide +kernel
theorem d_EL_add_6 : decode zb_EL_add 6 = .ok (.if_icmp .gt 10, 3) := by decide +kernel
theorem d_EL_add_9 : decode zb_EL_add 9 = .ok (.iload_n 2, 1) := by decide +kernel
theorem d_EL_add_10 : decode zb_EL_add 10 = .ok (.invokestatic 48, 3) := by decide +kernel
theorem d_EL_add_13 : decode zb_EL_add 13 = .ok (.ifCond .ne 5, 3) := by decide +kernel
theorem d_EL_add_16 : decode zb_EL_add 16 = .ok (.iconst (-1), 1) := by decide +kernel
theorem d_EL_add_17 : decode zb_EL_add 17 = .ok (.ireturn, 1) := by decide +kernel
theorem d_EL_add_18 : decode zb_EL_add 18 = .ok (.iload_n 3, 1) := by decide +kernel
theorem d_EL_add_19 : decode zb_EL_add 19 = .ok (.iconst 1, 1) := by decide +kernel
theorem d_EL_add_20 : decode zb_EL_add 20 = .ok (.if_icmp .lt 40, 3) := by decide +kernel
theorem d_EL_add_23 : decode zb_EL_add 23 = .ok (.iload_n 3, 1) := by decide +kernel
theorem d_EL_add_24 : decode zb_EL_add 24 = .ok (.bipush 99, 2) := by decide +kernel
theorem d_EL_add_26 : decode zb_EL_add 26 = .ok (.if_icmp .gt 34, 3) := by decide +kernel
theorem d_EL_add_29 : decode zb_EL_add 29 = .ok (.iload 4, 2) := by decide +kernel
theorem d_EL_add_31 : decode zb_EL_add 31 = .ok (.bipush (-5), 2) := by decide +kernel
theorem d_EL_add_33 : decode zb_EL_add 33 = .ok (.if_icmp .lt 27, 3) := by decide +kernel
theorem d_EL_add_36 : decode zb_EL_add 36 = .ok (.iload 4, 2) := by decide +kernel
theorem d_EL_add_38 : decode zb_EL_add 38 = .ok (.bipush 9, 2) := by decide +kernel
theorem d_EL_add_40 : decode zb_EL_add 40 = .ok (.if_icmp .gt 20, 3) := by decide +kernel
theorem d_EL_add_43 : decode zb_EL_add 43 = .ok (.iload 5, 2) := by decide +kernel
theorem d_EL_add_45 : decode zb_EL_add 45 = .ok (.iconst 1, 1) := by decide +kernel
theorem d_EL_add_46 : decode zb_EL_add 46 = .ok (.if_icmp .lt 14, 3) := by decide +kernel
theorem d_EL_add_49 : decode zb_EL_add 49 = .ok (.iload 5, 2) := by decide +kernel
theorem d_EL_add_51 : decode zb_EL_add 51 = .ok (.bipush 9, 2) := by decide +kernel
theorem d_EL_add_53 : decode zb_EL_add 53 = .ok (.if_icmp .gt 7, 3) := by decide +kernel
theorem d_EL_add_56 : decode zb_EL_add 56 = .ok (.iconst 1, 1) := by decide +kernel
theorem d_EL_add_57 : decode zb_EL_add 57 = .ok (.goto 4, 3) := by decide +kernel
theorem d_EL_add_60 : decode zb_EL_add 60 = .ok (.iconst 0, 1) := by decide +kernel
theorem d_EL_add_61 : decode zb_EL_add 61 = .ok (.istore 6, 2) := by decide +kernel
theorem d_EL_add_63 : decode zb_EL_add 63 = .ok (.iload 6, 2) := by decide +kernel
theorem d_EL_add_65 : decode zb_EL_add 65 = .ok (.ifCond .ne 6, 3) := by decide +kernel
theorem d_EL_add_68 : decode zb_EL_add 68 = .ok (.bipush (-2), 2) := by decide +kernel
theorem d_EL_add_70 : decode zb_EL_add 70 = .ok (.ireturn, 1) := by decide +kernel
theorem d_EL_add_71 : decode zb_EL_add 71 = .ok (.aload_n 0, 1) := by decide +kernel
theorem d_EL_add_72 : decode zb_EL_add 72 = .ok (.getfield 10, 3) := by decide +kernel
theorem d_EL_add_75 : decode zb_EL_add 75 = .ok (.iload_n 2, 1) := by decide +kernel
theorem d_EL_add_76 : decode zb_EL_add 76 = .ok (.invokevirtual 52, 3) := by decide +kernel
theorem d_EL_add_79 : decode zb_EL_add 79 = .ok (.ifCond .ne 9, 3) := by decide +kernel
theorem d_EL_add_82 : decode zb_EL_add 82 = .ok (.aload_n 0, 1) := by decide +kernel
theorem d_EL_add_83 : decode zb_EL_add 83 = .ok (.iconst 5, 1) := by decide +kernel
theorem d_EL_add_84 : decode zb_EL_add 84 = .ok (.invokevirtual 55, 3) := by decide +kernel
theorem d_EL_add_87 : decode zb_EL_add 87 = .ok (.ireturn, 1) := by decide +kernel
theorem d_EL_add_88 : decode zb_EL_add 88 = .ok (.aload_n 0, 1) := by decide +kernel
theorem d_EL_add_89 : decode zb_EL_add 89 = .ok (.getfield 10, 3) := by decide +kernel
theorem d_EL_add_92 : decode zb_EL_add 92 = .ok (.getfield 59, 3) := by decide +kernel
theorem d_EL_add_95 : decode zb_EL_add 95 = .ok (.invokevirtual 63, 3) := by decide +kernel
theorem d_EL_add_98 : decode zb_EL_add 98 = .ok (.bipush 8, 2) := by decide +kernel
theorem d_EL_add_100 : decode zb_EL_add 100 = .ok (.if_icmp .lt 6, 3) := by decide +kernel
theorem d_EL_add_103 : decode zb_EL_add 103 = .ok (.bipush (-4), 2) := by decide +kernel
theorem d_EL_add_105 : decode zb_EL_add 105 = .ok (.ireturn, 1) := by decide +kernel
theorem d_EL_add_106 : decode zb_EL_add 106 = .ok (.aload_n 0, 1) := by decide +kernel
theorem d_EL_add_107 : decode zb_EL_add 107 = .ok (.getfield 22, 3) := by decide +kernel
theorem d_EL_add_110 : decode zb_EL_add 110 = .ok (.aload_n 0, 1) := by decide +kernel
theorem d_EL_add_111 : decode zb_EL_add 111 = .ok (.getfield 10, 3) := by decide +kernel
theorem d_EL_add_114 : decode zb_EL_add 114 = .ok (.invokevirtual 69, 3) := by decide +kernel
theorem d_EL_add_117 : decode zb_EL_add 117 = .ok (.aload_n 0, 1) := by decide +kernel
theorem d_EL_add_118 : decode zb_EL_add 118 = .ok (.getfield 10, 3) := by decide +kernel
theorem d_EL_add_121 : decode zb_EL_add 121 = .ok (.getfield 59, 3) := by decide +kernel
theorem d_EL_add_124 : decode zb_EL_add 124 = .ok (.iload_n 1, 1) := by decide +kernel
theorem d_EL_add_125 : decode zb_EL_add 125 = .ok (.iload_n 2, 1) := by decide +kernel
theorem d_EL_add_126 : decode zb_EL_add 126 = .ok (.iload_n 3, 1) := by decide +kernel
theorem d_EL_add_127 : decode zb_EL_add 127 = .ok (.iload 4, 2) := by decide +kernel
theorem d_EL_add_129 : decode zb_EL_add 129 = .ok (.iload 5, 2) := by decide +kernel
theorem d_EL_add_131 : decode zb_EL_add 131 = .ok (.invokevirtual 73, 3) := by decide +kernel
theorem d_EL_add_134 : decode zb_EL_add 134 = .ok (.ireturn, 1) := by decide +kernel
def k_EL_add_61 (l1 : Int32) (l2 : Int32) (l3 : Int32) (l4 : Int32) (l5 : Int32) (s0 : Int32) (x : zsX) : Option (Int32 × zsX) := (if s0 = 0 then some ((-2 : Int32), x) else (k_St_isFree x.2.2.2.2.1 l2).bind fun o7 => (if o7 = 0 then (k_EL_refuse x ((5 : Int32))).bind fun o13 => some (o13.1, o13.2) else (k_Fi_size x.2.2.2.2.1.1.1).bind fun o9 => (if o9 < (8 : Int32) then (k_Ch_keep x.2.2.2.2.1 x.2.2.2.2.2.1).bind fun o11 => (k_Fi_join x.2.2.2.2.1.1.1 l1 l2 l3 l4 l5).bind fun o12 => some (o12.1, (x.1, x.2.1, x.2.2.1, x.2.2.2.1, ((o12.2, x.2.2.2.2.1.1.2.1, x.2.2.2.2.1.1.2.2), x.2.2.2.2.1.2.1, x.2.2.2.2.1.2.2.1, x.2.2.2.2.1.2.2.2), o11, x.2.2.2.2.2.2)) else some ((-4 : Int32), x))))
set_option maxRecDepth 20000 in
theorem w_EL_add_61 {X : zX} {c : zY} {q : Nat → Nat} {l1 : Int32} {l2 : Int32} {l3 : Int32} {l4 : Int32} {l5 : Int32} {out : Int32 × zsX} (hX : Ok X zr_EL zb_EL_add 7 5 c) (hR : Rt X (some .int) (some (.int out.1)) (zwX c q out.2)) : ∀ (s0 : Int32) (x : zsX), k_EL_add_61 l1 l2 l3 l4 l5 s0 x = some out → Go X (zwX c q x) [(0, .ref ((q 17))), (1, .int l1), (2, .int l2), (3, .int l3), (4, .int l4), (5, .int l5)] 61 [.int s0] := by
  intro s0 x h
  rw [k_EL_add_61] at h
  refine g_istore (pc := 61) (L' := [(6, .int s0), (0, .ref ((q 17))), (1, .int l1), (2, .int l2), (3, .int l3), (4, .int l4), (5, .int l5)]) hX d_EL_add_61 rfl rfl ?_
  refine g_iload (pc := 63) hX d_EL_add_63 0 rfl ?_
  refine g_if_ne (pc := 65) (tgt := 71) hX d_EL_add_65 (by decide) h (fun c6 h => ?_) (fun c6 h => ?_)
  · refine g_aload_n (pc := 71) hX d_EL_add_71 rfl 1 rfl ?_
    refine gf_EL_10 (pc := 72) (v := .ref ((q 12))) hX 3 rfl rfl d_EL_add_72 ?_
    refine g_iload_n (pc := 75) hX d_EL_add_75 rfl 3 rfl ?_
    obtain ⟨o7, e7, h⟩ := zbind h
    refine g_cvI (pc := 76)  (st := []) (w' := (zwX c q x)) hX zk_St_isFree zs_St_isFree zL_EL_52 (c_St_isFree c q x.2.2.2.2.1 l2 e7) rfl rfl rfl rfl (sp_EL_St_7 c q x) (sp_EL_St_7 c q x).symm 19 5 rfl rfl rfl d_EL_add_76 ?_
    refine g_if_ne (pc := 79) (tgt := 88) hX d_EL_add_79 (by decide) h (fun c8 h => ?_) (fun c8 h => ?_)
    · refine g_aload_n (pc := 88) hX d_EL_add_88 rfl 1 rfl ?_
      refine gf_EL_10 (pc := 89) (v := .ref ((q 12))) hX 3 rfl rfl d_EL_add_89 ?_
      refine gf_EL_59 (pc := 92) (v := .ref ((q 6))) hX 19 rfl rfl d_EL_add_92 ?_
      obtain ⟨o9, e9, h⟩ := zbind h
      refine g_cvI (pc := 95)  (st := []) (w' := (zwX c q x)) hX zk_Fi_size zs_Fi_size zL_EL_63 (c_Fi_size c q x.2.2.2.2.1.1.1 e9) rfl rfl rfl rfl (sp_EL_Fi_7 c q x) (sp_EL_Fi_7 c q x).symm 13 3 rfl rfl rfl d_EL_add_95 ?_
      refine g_bipush (pc := 98) hX d_EL_add_98 ze_8 ?_
      refine g_icmp_lt (pc := 100) (tgt := 106) hX d_EL_add_100 (by decide) h (fun c10 h => ?_) (fun c10 h => ?_)
      · refine g_aload_n (pc := 106) hX d_EL_add_106 rfl 1 rfl ?_
        refine gf_EL_22 (pc := 107) (v := .ref ((q 24))) hX 3 rfl rfl d_EL_add_107 ?_
        refine g_aload_n (pc := 110) hX d_EL_add_110 rfl 1 rfl ?_
        refine gf_EL_10 (pc := 111) (v := .ref ((q 12))) hX 3 rfl rfl d_EL_add_111 ?_
        obtain ⟨o11, e11, h⟩ := zbind h
        refine g_cvV (pc := 114) (st := []) (w' := (zwX c q ((x.1, x.2.1, x.2.2.1, x.2.2.2.1, x.2.2.2.2.1, o11, x.2.2.2.2.2.2)))) hX zk_Ch_keep zs_Ch_keep zL_EL_69 (c_Ch_keep c q x.2.2.2.2.1 x.2.2.2.2.2.1 e11) rfl rfl rfl rfl (sp_KN c q x) (sq_KN c q x o11) 24 0 rfl rfl rfl d_EL_add_114 ?_
        refine g_aload_n (pc := 117) hX d_EL_add_117 rfl 1 rfl ?_
        refine gf_EL_10 (pc := 118) (v := .ref ((q 12))) hX 3 rfl rfl d_EL_add_118 ?_
        refine gf_EL_59 (pc := 121) (v := .ref ((q 6))) hX 19 rfl rfl d_EL_add_121 ?_
        refine g_iload_n (pc := 124) hX d_EL_add_124 rfl 2 rfl ?_
        refine g_iload_n (pc := 125) hX d_EL_add_125 rfl 3 rfl ?_
        refine g_iload_n (pc := 126) hX d_EL_add_126 rfl 4 rfl ?_
        refine g_iload (pc := 127) hX d_EL_add_127 5 rfl ?_
        refine g_iload (pc := 129) hX d_EL_add_129 6 rfl ?_
        obtain ⟨o12, e12, h⟩ := zbind h
        refine g_cvI (pc := 131)  (st := []) (w' := (zwX c q ((x.1, x.2.1, x.2.2.1, x.2.2.2.1, ((o12.2, x.2.2.2.2.1.1.2.1, x.2.2.2.2.1.1.2.2), x.2.2.2.2.1.2.1, x.2.2.2.2.1.2.2.1, x.2.2.2.2.1.2.2.2), o11, x.2.2.2.2.2.2)))) hX zk_Fi_join zs_Fi_join zL_EL_73 (c_Fi_join c q x.2.2.2.2.1.1.1 l1 l2 l3 l4 l5 e12) rfl rfl rfl rfl (sp_EL_Fi_7 c q ((x.1, x.2.1, x.2.2.1, x.2.2.2.1, x.2.2.2.2.1, o11, x.2.2.2.2.2.2))) (sq_EL_Fi_7 c q ((x.1, x.2.1, x.2.2.1, x.2.2.2.1, x.2.2.2.2.1, o11, x.2.2.2.2.2.2)) o12.2) 13 3 rfl rfl rfl d_EL_add_131 ?_
        obtain rfl := Option.some.inj h
        exact g_iret (pc := 134) hX hR d_EL_add_134
      · refine g_bipush (pc := 103) hX d_EL_add_103 ze_m4 ?_
        obtain rfl := Option.some.inj h
        exact g_iret (pc := 105) hX hR d_EL_add_105
    · refine g_aload_n (pc := 82) hX d_EL_add_82 rfl 1 rfl ?_
      refine g_iconst (pc := 83) hX d_EL_add_83 zc_5 ?_
      obtain ⟨o13, e13, h⟩ := zbind h
      refine g_cvI (pc := 84) (w1 := []) (w2 := []) (st := []) (w' := (zwX c q o13.2)) hX zk_EL_refuse zs_EL_refuse zL_EL_55 (c_EL_refuse c q x ((5 : Int32)) e13) rfl rfl rfl rfl (zself _) (zself _).symm 3 9 rfl rfl rfl d_EL_add_84 ?_
      obtain rfl := Option.some.inj h
      exact g_iret (pc := 87) hX hR d_EL_add_87
  · refine g_bipush (pc := 68) hX d_EL_add_68 ze_m2 ?_
    obtain rfl := Option.some.inj h
    exact g_iret (pc := 70) hX hR d_EL_add_70
def k_EL_add (x : zsX) (l1 : Int32) (l2 : Int32) (l3 : Int32) (l4 : Int32) (l5 : Int32) : Option (Int32 × zsX) := (if l1 < 0 then some ((-1 : Int32), x) else (if (1 : Int32) < l1 then some ((-1 : Int32), x) else (k_EL_isCell l2).bind fun o3 => (if o3 = 0 then some ((-1 : Int32), x) else (if l3 < (1 : Int32) then k_EL_add_61 l1 l2 l3 l4 l5 ((0 : Int32)) x else (if (99 : Int32) < l3 then k_EL_add_61 l1 l2 l3 l4 l5 ((0 : Int32)) x else (if l4 < (-5 : Int32) then k_EL_add_61 l1 l2 l3 l4 l5 ((0 : Int32)) x else (if (9 : Int32) < l4 then k_EL_add_61 l1 l2 l3 l4 l5 ((0 : Int32)) x else (if l5 < (1 : Int32) then k_EL_add_61 l1 l2 l3 l4 l5 ((0 : Int32)) x else (if (9 : Int32) < l5 then k_EL_add_61 l1 l2 l3 l4 l5 ((0 : Int32)) x else k_EL_add_61 l1 l2 l3 l4 l5 ((1 : Int32)) x)))))))))
set_option maxRecDepth 20000 in
theorem c_EL_add (c : zY) (q : Nat → Nat) (x : zsX) (l1 : Int32) (l2 : Int32) (l3 : Int32) (l4 : Int32) (l5 : Int32) {out : Int32 × zsX} (h : k_EL_add x l1 l2 l3 l4 l5 = some out) : KM zy_EL_add zb_EL_add 7 (some .int) 5 c [.ref ((q 17)), .int l1, .int l2, .int l3, .int l4, .int l5] (zwX c q x) (zwX c q out.2) (some (.int out.1)) := zK_of zp_EL rfl (Nat.le_of_ble_eq_true rfl) (zq_EL c q _ _) (fun X hX hR => by
  show Go X (zwX c q x) [(0, .ref ((q 17))), (1, .int l1), (2, .int l2), (3, .int l3), (4, .int l4), (5, .int l5)] 0 []
  rw [k_EL_add] at h
  refine g_iload_n (pc := 0) hX d_EL_add_0 rfl 1 rfl ?_
  refine g_if_lt (pc := 1) (tgt := 16) hX d_EL_add_1 (by decide) h (fun c1 h => ?_) (fun c1 h => ?_)
  · refine g_iconst (pc := 16) hX d_EL_add_16 zc_m1 ?_
    obtain rfl := Option.some.inj h
    exact g_iret (pc := 17) hX hR d_EL_add_17
  · refine g_iload_n (pc := 4) hX d_EL_add_4 rfl 1 rfl ?_
    refine g_iconst (pc := 5) hX d_EL_add_5 zc_1 ?_
    refine g_icmp_gt (pc := 6) (tgt := 16) hX d_EL_add_6 (by decide) h (fun c2 h => ?_) (fun c2 h => ?_)
    · refine g_iconst (pc := 16) hX d_EL_add_16 zc_m1 ?_
      obtain rfl := Option.some.inj h
      exact g_iret (pc := 17) hX hR d_EL_add_17
    · refine g_iload_n (pc := 9) hX d_EL_add_9 rfl 2 rfl ?_
      obtain ⟨o3, e3, h⟩ := zbind h
      refine g_csI (pc := 10) (st := []) hX zk_EL_isCell zL_EL_48 (c_EL_isCell c l2 e3) rfl rfl rfl rfl rfl d_EL_add_10 ?_
      refine g_if_ne (pc := 13) (tgt := 18) hX d_EL_add_13 (by decide) h (fun c4 h => ?_) (fun c4 h => ?_)
      · refine g_iload_n (pc := 18) hX d_EL_add_18 rfl 3 rfl ?_
        refine g_iconst (pc := 19) hX d_EL_add_19 zc_1 ?_
        refine g_icmp_lt (pc := 20) (tgt := 60) hX d_EL_add_20 (by decide) h (fun c5 h => ?_) (fun c5 h => ?_)
        · refine g_iconst (pc := 60) hX d_EL_add_60 zc_0 ?_
          exact w_EL_add_61 hX hR _ _ h
        · refine g_iload_n (pc := 23) hX d_EL_add_23 rfl 3 rfl ?_
          refine g_bipush (pc := 24) hX d_EL_add_24 ze_99 ?_
          refine g_icmp_gt (pc := 26) (tgt := 60) hX d_EL_add_26 (by decide) h (fun c14 h => ?_) (fun c14 h => ?_)
          · refine g_iconst (pc := 60) hX d_EL_add_60 zc_0 ?_
            exact w_EL_add_61 hX hR _ _ h
          · refine g_iload (pc := 29) hX d_EL_add_29 4 rfl ?_
            refine g_bipush (pc := 31) hX d_EL_add_31 ze_m5 ?_
            refine g_icmp_lt (pc := 33) (tgt := 60) hX d_EL_add_33 (by decide) h (fun c15 h => ?_) (fun c15 h => ?_)
            · refine g_iconst (pc := 60) hX d_EL_add_60 zc_0 ?_
              exact w_EL_add_61 hX hR _ _ h
            · refine g_iload (pc := 36) hX d_EL_add_36 4 rfl ?_
              refine g_bipush (pc := 38) hX d_EL_add_38 ze_9 ?_
              refine g_icmp_gt (pc := 40) (tgt := 60) hX d_EL_add_40 (by decide) h (fun c16 h => ?_) (fun c16 h => ?_)
              · refine g_iconst (pc := 60) hX d_EL_add_60 zc_0 ?_
                exact w_EL_add_61 hX hR _ _ h
              · refine g_iload (pc := 43) hX d_EL_add_43 5 rfl ?_
                refine g_iconst (pc := 45) hX d_EL_add_45 zc_1 ?_
                refine g_icmp_lt (pc := 46) (tgt := 60) hX d_EL_add_46 (by decide) h (fun c17 h => ?_) (fun c17 h => ?_)
                · refine g_iconst (pc := 60) hX d_EL_add_60 zc_0 ?_
                  exact w_EL_add_61 hX hR _ _ h
                · refine g_iload (pc := 49) hX d_EL_add_49 5 rfl ?_
                  refine g_bipush (pc := 51) hX d_EL_add_51 ze_9 ?_
                  refine g_icmp_gt (pc := 53) (tgt := 60) hX d_EL_add_53 (by decide) h (fun c18 h => ?_) (fun c18 h => ?_)
                  · refine g_iconst (pc := 60) hX d_EL_add_60 zc_0 ?_
                    exact w_EL_add_61 hX hR _ _ h
                  · refine g_iconst (pc := 56) hX d_EL_add_56 zc_1 ?_
                    refine g_goto (pc := 57) (tgt := 61) hX d_EL_add_57 (by decide) ?_
                    exact w_EL_add_61 hX hR _ _ h
      · refine g_iconst (pc := 16) hX d_EL_add_16 zc_m1 ?_
        obtain rfl := Option.some.inj h
        exact g_iret (pc := 17) hX hR d_EL_add_17)
theorem d_EL_wall_0 : decode zb_EL_wall 0 = .ok (.iload_n 1, 1) := by decide +kernel
theorem d_EL_wall_1 : decode zb_EL_wall 1 = .ok (.invokestatic 48, 3) := by decide +kernel
theorem d_EL_wall_4 : decode zb_EL_wall 4 = .ok (.ifCond .ne 5, 3) := by decide +kernel
theorem d_EL_wall_7 : decode zb_EL_wall 7 = .ok (.iconst (-1), 1) := by decide +kernel
theorem d_EL_wall_8 : decode zb_EL_wall 8 = .ok (.ireturn, 1) := by decide +kernel
theorem d_EL_wall_9 : decode zb_EL_wall 9 = .ok (.aload_n 0, 1) := by decide +kernel
theorem d_EL_wall_10 : decode zb_EL_wall 10 = .ok (.getfield 10, 3) := by decide +kernel
theorem d_EL_wall_13 : decode zb_EL_wall 13 = .ok (.getfield 59, 3) := by decide +kernel
theorem d_EL_wall_16 : decode zb_EL_wall 16 = .ok (.iload_n 1, 1) := by decide +kernel
theorem d_EL_wall_17 : decode zb_EL_wall 17 = .ok (.invokevirtual 77, 3) := by decide +kernel
theorem d_EL_wall_20 : decode zb_EL_wall 20 = .ok (.iconst (-1), 1) := by decide +kernel
theorem d_EL_wall_21 : decode zb_EL_wall 21 = .ok (.if_icmp .eq 9, 3) := by decide +kernel
theorem d_EL_wall_24 : decode zb_EL_wall 24 = .ok (.aload_n 0, 1) := by decide +kernel
theorem d_EL_wall_25 : decode zb_EL_wall 25 = .ok (.iconst 5, 1) := by decide +kernel
theorem d_EL_wall_26 : decode zb_EL_wall 26 = .ok (.invokevirtual 55, 3) := by decide +kernel
theorem d_EL_wall_29 : decode zb_EL_wall 29 = .ok (.ireturn, 1) := by decide +kernel
theorem d_EL_wall_30 : decode zb_EL_wall 30 = .ok (.aload_n 0, 1) := by decide +kernel
theorem d_EL_wall_31 : decode zb_EL_wall 31 = .ok (.getfield 22, 3) := by decide +kernel
theorem d_EL_wall_34 : decode zb_EL_wall 34 = .ok (.aload_n 0, 1) := by decide +kernel
theorem d_EL_wall_35 : decode zb_EL_wall 35 = .ok (.getfield 10, 3) := by decide +kernel
theorem d_EL_wall_38 : decode zb_EL_wall 38 = .ok (.invokevirtual 69, 3) := by decide +kernel
theorem d_EL_wall_41 : decode zb_EL_wall 41 = .ok (.iconst 1, 1) := by decide +kernel
theorem d_EL_wall_42 : decode zb_EL_wall 42 = .ok (.aload_n 0, 1) := by decide +kernel
theorem d_EL_wall_43 : decode zb_EL_wall 43 = .ok (.getfield 10, 3) := by decide +kernel
theorem d_EL_wall_46 : decode zb_EL_wall 46 = .ok (.getfield 80, 3) := by decide +kernel
theorem d_EL_wall_49 : decode zb_EL_wall 49 = .ok (.iload_n 1, 1) := by decide +kernel
theorem d_EL_wall_50 : decode zb_EL_wall 50 = .ok (.iconst 0, 1) := by decide +kernel
theorem d_EL_wall_51 : decode zb_EL_wall 51 = .ok (.invokevirtual 84, 3) := by decide +kernel
theorem d_EL_wall_54 : decode zb_EL_wall 54 = .ok (.isub, 1) := by decide +kernel
theorem d_EL_wall_55 : decode zb_EL_wall 55 = .ok (.istore_n 2, 1) := by decide +kernel
theorem d_EL_wall_56 : decode zb_EL_wall 56 = .ok (.aload_n 0, 1) := by decide +kernel
theorem d_EL_wall_57 : decode zb_EL_wall 57 = .ok (.getfield 10, 3) := by decide +kernel
theorem d_EL_wall_60 : decode zb_EL_wall 60 = .ok (.getfield 80, 3) := by decide +kernel
theorem d_EL_wall_63 : decode zb_EL_wall 63 = .ok (.iload_n 1, 1) := by decide +kernel
theorem d_EL_wall_64 : decode zb_EL_wall 64 = .ok (.iconst 0, 1) := by decide +kernel
theorem d_EL_wall_65 : decode zb_EL_wall 65 = .ok (.iload_n 2, 1) := by decide +kernel
theorem d_EL_wall_66 : decode zb_EL_wall 66 = .ok (.invokevirtual 90, 3) := by decide +kernel
theorem d_EL_wall_69 : decode zb_EL_wall 69 = .ok (.iload_n 2, 1) := by decide +kernel
theorem d_EL_wall_70 : decode zb_EL_wall 70 = .ok (.ireturn, 1) := by decide +kernel
def k_EL_wall (x : zsX) (l1 : Int32) : Option (Int32 × zsX) := (k_EL_isCell l1).bind fun o1 => (if o1 = 0 then some ((-1 : Int32), x) else (k_Fi_standingOn x.2.2.2.2.1.1.1 l1).bind fun o3 => (if o3 = (-1 : Int32) then (k_Ch_keep x.2.2.2.2.1 x.2.2.2.2.2.1).bind fun o5 => (k_Ta_get 1 100 x.2.2.2.2.1.2.1 l1 ((0 : Int32))).bind fun o6 => (k_Ta_set 1 100 x.2.2.2.2.1.2.1 l1 ((0 : Int32)) (((1 : Int32) - o6))).bind fun o7 => some (((1 : Int32) - o6), (x.1, x.2.1, x.2.2.1, x.2.2.2.1, (x.2.2.2.2.1.1, o7, x.2.2.2.2.1.2.2.1, x.2.2.2.2.1.2.2.2), o5, x.2.2.2.2.2.2)) else (k_EL_refuse x ((5 : Int32))).bind fun o8 => some (o8.1, o8.2)))
set_option maxRecDepth 20000 in
theorem c_EL_wall (c : zY) (q : Nat → Nat) (x : zsX) (l1 : Int32) {out : Int32 × zsX} (h : k_EL_wall x l1 = some out) : KM zy_EL_wall zb_EL_wall 3 (some .int) 5 c [.ref ((q 17)), .int l1] (zwX c q x) (zwX c q out.2) (some (.int out.1)) := zK_of zp_EL rfl (Nat.le_of_ble_eq_true rfl) (zq_EL c q _ _) (fun X hX hR => by
  show Go X (zwX c q x) [(0, .ref ((q 17))), (1, .int l1)] 0 []
  rw [k_EL_wall] at h
  refine g_iload_n (pc := 0) hX d_EL_wall_0 rfl 1 rfl ?_
  obtain ⟨o1, e1, h⟩ := zbind h
  refine g_csI (pc := 1) (st := []) hX zk_EL_isCell zL_EL_48 (c_EL_isCell c l1 e1) rfl rfl rfl rfl rfl d_EL_wall_1 ?_
  refine g_if_ne (pc := 4) (tgt := 9) hX d_EL_wall_4 (by decide) h (fun c2 h => ?_) (fun c2 h => ?_)
  · refine g_aload_n (pc := 9) hX d_EL_wall_9 rfl 0 rfl ?_
    refine gf_EL_10 (pc := 10) (v := .ref ((q 12))) hX 3 rfl rfl d_EL_wall_10 ?_
    refine gf_EL_59 (pc := 13) (v := .ref ((q 6))) hX 19 rfl rfl d_EL_wall_13 ?_
    refine g_iload_n (pc := 16) hX d_EL_wall_16 rfl 1 rfl ?_
    obtain ⟨o3, e3, h⟩ := zbind h
    refine g_cvI (pc := 17)  (st := []) (w' := (zwX c q x)) hX zk_Fi_standingOn zs_Fi_standingOn zL_EL_77 (c_Fi_standingOn c q x.2.2.2.2.1.1.1 l1 e3) rfl rfl rfl rfl (sp_EL_Fi_7 c q x) (sp_EL_Fi_7 c q x).symm 13 3 rfl rfl rfl d_EL_wall_17 ?_
    refine g_iconst (pc := 20) hX d_EL_wall_20 zc_m1 ?_
    refine g_icmp_eq (pc := 21) (tgt := 30) hX d_EL_wall_21 (by decide) h (fun c4 h => ?_) (fun c4 h => ?_)
    · refine g_aload_n (pc := 30) hX d_EL_wall_30 rfl 0 rfl ?_
      refine gf_EL_22 (pc := 31) (v := .ref ((q 24))) hX 3 rfl rfl d_EL_wall_31 ?_
      refine g_aload_n (pc := 34) hX d_EL_wall_34 rfl 0 rfl ?_
      refine gf_EL_10 (pc := 35) (v := .ref ((q 12))) hX 3 rfl rfl d_EL_wall_35 ?_
      obtain ⟨o5, e5, h⟩ := zbind h
      refine g_cvV (pc := 38) (st := []) (w' := (zwX c q ((x.1, x.2.1, x.2.2.1, x.2.2.2.1, x.2.2.2.2.1, o5, x.2.2.2.2.2.2)))) hX zk_Ch_keep zs_Ch_keep zL_EL_69 (c_Ch_keep c q x.2.2.2.2.1 x.2.2.2.2.2.1 e5) rfl rfl rfl rfl (sp_KN c q x) (sq_KN c q x o5) 24 0 rfl rfl rfl d_EL_wall_38 ?_
      refine g_iconst (pc := 41) hX d_EL_wall_41 zc_1 ?_
      refine g_aload_n (pc := 42) hX d_EL_wall_42 rfl 0 rfl ?_
      refine gf_EL_10 (pc := 43) (v := .ref ((q 12))) hX 3 rfl rfl d_EL_wall_43 ?_
      refine gf_EL_80 (pc := 46) (v := .ref ((q 13))) hX 19 rfl rfl d_EL_wall_46 ?_
      refine g_iload_n (pc := 49) hX d_EL_wall_49 rfl 1 rfl ?_
      refine g_iconst (pc := 50) hX d_EL_wall_50 zc_0 ?_
      obtain ⟨o6, e6, h⟩ := zbind h
      refine g_cvI (pc := 51)  (st := [.int ((1 : Int32))]) (w' := (zwX c q ((x.1, x.2.1, x.2.2.1, x.2.2.2.1, x.2.2.2.2.1, o5, x.2.2.2.2.2.2)))) hX zk_Ta_get zs_Ta_get zL_EL_84 (c_Ta_get c (q 13) (q 14) 1 100 x.2.2.2.2.1.2.1 l1 ((0 : Int32)) e6) rfl rfl rfl rfl (sp_EL_Ta_20 c q ((x.1, x.2.1, x.2.2.1, x.2.2.2.1, x.2.2.2.2.1, o5, x.2.2.2.2.2.2))) (sp_EL_Ta_20 c q ((x.1, x.2.1, x.2.2.1, x.2.2.2.1, x.2.2.2.2.1, o5, x.2.2.2.2.2.2))).symm 20 6 rfl rfl rfl d_EL_wall_51 ?_
      refine g_isub (pc := 54) hX d_EL_wall_54 ?_
      refine g_istore_n (pc := 55) (L' := [(2, .int (((1 : Int32) - o6))), (0, .ref ((q 17))), (1, .int l1)]) hX d_EL_wall_55 rfl rfl rfl ?_
      refine g_aload_n (pc := 56) hX d_EL_wall_56 rfl 1 rfl ?_
      refine gf_EL_10 (pc := 57) (v := .ref ((q 12))) hX 3 rfl rfl d_EL_wall_57 ?_
      refine gf_EL_80 (pc := 60) (v := .ref ((q 13))) hX 19 rfl rfl d_EL_wall_60 ?_
      refine g_iload_n (pc := 63) hX d_EL_wall_63 rfl 2 rfl ?_
      refine g_iconst (pc := 64) hX d_EL_wall_64 zc_0 ?_
      refine g_iload_n (pc := 65) hX d_EL_wall_65 rfl 0 rfl ?_
      obtain ⟨o7, e7, h⟩ := zbind h
      refine g_cvV (pc := 66)  (st := []) (w' := (zwX c q ((x.1, x.2.1, x.2.2.1, x.2.2.2.1, (x.2.2.2.2.1.1, o7, x.2.2.2.2.1.2.2.1, x.2.2.2.2.1.2.2.2), o5, x.2.2.2.2.2.2)))) hX zk_Ta_set zs_Ta_set zL_EL_90 (c_Ta_set c (q 13) (q 14) 1 100 x.2.2.2.2.1.2.1 l1 ((0 : Int32)) (((1 : Int32) - o6)) e7) rfl rfl rfl rfl (sp_EL_Ta_20 c q ((x.1, x.2.1, x.2.2.1, x.2.2.2.1, x.2.2.2.2.1, o5, x.2.2.2.2.2.2))) (sq_EL_Ta_20 c q ((x.1, x.2.1, x.2.2.1, x.2.2.2.1, x.2.2.2.2.1, o5, x.2.2.2.2.2.2)) o7) 20 6 rfl rfl rfl d_EL_wall_66 ?_
      refine g_iload_n (pc := 69) hX d_EL_wall_69 rfl 0 rfl ?_
      obtain rfl := Option.some.inj h
      exact g_iret (pc := 70) hX hR d_EL_wall_70
    · refine g_aload_n (pc := 24) hX d_EL_wall_24 rfl 0 rfl ?_
      refine g_iconst (pc := 25) hX d_EL_wall_25 zc_5 ?_
      obtain ⟨o8, e8, h⟩ := zbind h
      refine g_cvI (pc := 26) (w1 := []) (w2 := []) (st := []) (w' := (zwX c q o8.2)) hX zk_EL_refuse zs_EL_refuse zL_EL_55 (c_EL_refuse c q x ((5 : Int32)) e8) rfl rfl rfl rfl (zself _) (zself _).symm 3 9 rfl rfl rfl d_EL_wall_26 ?_
      obtain rfl := Option.some.inj h
      exact g_iret (pc := 29) hX hR d_EL_wall_29
  · refine g_iconst (pc := 7) hX d_EL_wall_7 zc_m1 ?_
    obtain rfl := Option.some.inj h
    exact g_iret (pc := 8) hX hR d_EL_wall_8)
theorem d_EL_amount_0 : decode zb_EL_amount 0 = .ok (.aload_n 0, 1) := by decide +kernel
theorem d_EL_amount_1 : decode zb_EL_amount 1 = .ok (.getfield 10, 3) := by decide +kernel
theorem d_EL_amount_4 : decode zb_EL_amount 4 = .ok (.getfield 59, 3) := by decide +kernel
theorem d_EL_amount_7 : decode zb_EL_amount 7 = .ok (.iload_n 1, 1) := by decide +kernel
theorem d_EL_amount_8 : decode zb_EL_amount 8 = .ok (.invokevirtual 94, 3) := by decide +kernel
theorem d_EL_amount_11 : decode zb_EL_amount 11 = .ok (.ifCond .eq 12, 3) := by decide +kernel
theorem d_EL_amount_14 : decode zb_EL_amount 14 = .ok (.iload_n 2, 1) := by decide +kernel
theorem d_EL_amount_15 : decode zb_EL_amount 15 = .ok (.ifCond .lt 8, 3) := by decide +kernel
theorem d_EL_amount_18 : decode zb_EL_amount 18 = .ok (.iload_n 2, 1) := by decide +kernel
theorem d_EL_amount_19 : decode zb_EL_amount 19 = .ok (.iconst 3, 1) := by decide +kernel
theorem d_EL_amount_20 : decode zb_EL_amount 20 = .ok (.if_icmp .lt 5, 3) := by decide +kernel
theorem d_EL_amount_23 : decode zb_EL_amount 23 = .ok (.iconst (-1), 1) := by decide +kernel
theorem d_EL_amount_24 : decode zb_EL_amount 24 = .ok (.ireturn, 1) := by decide +kernel
theorem d_EL_amount_25 : decode zb_EL_amount 25 = .ok (.iload_n 3, 1) := by decide +kernel
theorem d_EL_amount_26 : decode zb_EL_amount 26 = .ok (.ifCond .lt 9, 3) := by decide +kernel
theorem d_EL_amount_29 : decode zb_EL_amount 29 = .ok (.iload_n 3, 1) := by decide +kernel
theorem d_EL_amount_30 : decode zb_EL_amount 30 = .ok (.bipush 9, 2) := by decide +kernel
theorem d_EL_amount_32 : decode zb_EL_amount 32 = .ok (.if_icmp .le 6, 3) := by decide +kernel
theorem d_EL_amount_35 : decode zb_EL_amount 35 = .ok (.bipush (-2), 2) := by decide +kernel
theorem d_EL_amount_37 : decode zb_EL_amount 37 = .ok (.ireturn, 1) := by decide +kernel
theorem d_EL_amount_38 : decode zb_EL_amount 38 = .ok (.aload_n 0, 1) := by decide +kernel
theorem d_EL_amount_39 : decode zb_EL_amount 39 = .ok (.getfield 10, 3) := by decide +kernel
theorem d_EL_amount_42 : decode zb_EL_amount 42 = .ok (.getfield 97, 3) := by decide +kernel
theorem d_EL_amount_45 : decode zb_EL_amount 45 = .ok (.invokevirtual 101, 3) := by decide +kernel
theorem d_EL_amount_48 : decode zb_EL_amount 48 = .ok (.ifCond .eq 9, 3) := by decide +kernel
theorem d_EL_amount_51 : decode zb_EL_amount 51 = .ok (.aload_n 0, 1) := by decide +kernel
theorem d_EL_amount_52 : decode zb_EL_amount 52 = .ok (.iconst 2, 1) := by decide +kernel
theorem d_EL_amount_53 : decode zb_EL_amount 53 = .ok (.invokevirtual 55, 3) := by decide +kernel
theorem d_EL_amount_56 : decode zb_EL_amount 56 = .ok (.ireturn, 1) := by decide +kernel
theorem d_EL_amount_57 : decode zb_EL_amount 57 = .ok (.aload_n 0, 1) := by decide +kernel
theorem d_EL_amount_58 : decode zb_EL_amount 58 = .ok (.getfield 22, 3) := by decide +kernel
theorem d_EL_amount_61 : decode zb_EL_amount 61 = .ok (.aload_n 0, 1) := by decide +kernel
theorem d_EL_amount_62 : decode zb_EL_amount 62 = .ok (.getfield 10, 3) := by decide +kernel
theorem d_EL_amount_65 : decode zb_EL_amount 65 = .ok (.invokevirtual 69, 3) := by decide +kernel
theorem d_EL_amount_68 : decode zb_EL_amount 68 = .ok (.aload_n 0, 1) := by decide +kernel
theorem d_EL_amount_69 : decode zb_EL_amount 69 = .ok (.getfield 10, 3) := by decide +kernel
theorem d_EL_amount_72 : decode zb_EL_amount 72 = .ok (.getfield 59, 3) := by decide +kernel
theorem d_EL_amount_75 : decode zb_EL_amount 75 = .ok (.iload_n 1, 1) := by decide +kernel
theorem d_EL_amount_76 : decode zb_EL_amount 76 = .ok (.bipush 10, 2) := by decide +kernel
theorem d_EL_amount_78 : decode zb_EL_amount 78 = .ok (.iload_n 2, 1) := by decide +kernel
theorem d_EL_amount_79 : decode zb_EL_amount 79 = .ok (.iadd, 1) := by decide +kernel
theorem d_EL_amount_80 : decode zb_EL_amount 80 = .ok (.invokevirtual 107, 3) := by decide +kernel
theorem d_EL_amount_83 : decode zb_EL_amount 83 = .ok (.istore 4, 2) := by decide +kernel
theorem d_EL_amount_85 : decode zb_EL_amount 85 = .ok (.aload_n 0, 1) := by decide +kernel
theorem d_EL_amount_86 : decode zb_EL_amount 86 = .ok (.getfield 10, 3) := by decide +kernel
theorem d_EL_amount_89 : decode zb_EL_amount 89 = .ok (.getfield 59, 3) := by decide +kernel
theorem d_EL_amount_92 : decode zb_EL_amount 92 = .ok (.iload_n 1, 1) := by decide +kernel
theorem d_EL_amount_93 : decode zb_EL_amount 93 = .ok (.bipush 10, 2) := by decide +kernel
theorem d_EL_amount_95 : decode zb_EL_amount 95 = .ok (.iload_n 2, 1) := by decide +kernel
theorem d_EL_amount_96 : decode zb_EL_amount 96 = .ok (.iadd, 1) := by decide +kernel
theorem d_EL_amount_97 : decode zb_EL_amount 97 = .ok (.iload_n 3, 1) := by decide +kernel
theorem d_EL_amount_98 : decode zb_EL_amount 98 = .ok (.invokevirtual 110, 3) := by decide +kernel
theorem d_EL_amount_101 : decode zb_EL_amount 101 = .ok (.aload_n 0, 1) := by decide +kernel
theorem d_EL_amount_102 : decode zb_EL_amount 102 = .ok (.getfield 10, 3) := by decide +kernel
theorem d_EL_amount_105 : decode zb_EL_amount 105 = .ok (.getfield 59, 3) := by decide +kernel
theorem d_EL_amount_108 : decode zb_EL_amount 108 = .ok (.iload_n 1, 1) := by decide +kernel
theorem d_EL_amount_109 : decode zb_EL_amount 109 = .ok (.bipush 7, 2) := by decide +kernel
theorem d_EL_amount_111 : decode zb_EL_amount 111 = .ok (.iload_n 2, 1) := by decide +kernel
theorem d_EL_amount_112 : decode zb_EL_amount 112 = .ok (.iadd, 1) := by decide +kernel
theorem d_EL_amount_113 : decode zb_EL_amount 113 = .ok (.iload_n 3, 1) := by decide +kernel
theorem d_EL_amount_114 : decode zb_EL_amount 114 = .ok (.invokevirtual 110, 3) := by decide +kernel
theorem d_EL_amount_117 : decode zb_EL_amount 117 = .ok (.iload 4, 2) := by decide +kernel
theorem d_EL_amount_119 : decode zb_EL_amount 119 = .ok (.ireturn, 1) := by decide +kernel
def k_EL_amount (x : zsX) (l1 : Int32) (l2 : Int32) (l3 : Int32) : Option (Int32 × zsX) := (k_Fi_has x.2.2.2.2.1.1.1 l1).bind fun o1 => (if o1 = 0 then some ((-1 : Int32), x) else (if l2 < 0 then some ((-1 : Int32), x) else (if l2 < (3 : Int32) then (if l3 < 0 then some ((-2 : Int32), x) else (if (9 : Int32) < l3 then some ((-2 : Int32), x) else (k_En_isOn x.2.2.2.2.1.1).bind fun o7 => (if o7 = 0 then (k_Ch_keep x.2.2.2.2.1 x.2.2.2.2.2.1).bind fun o9 => (k_Fi_at x.2.2.2.2.1.1.1 l1 (((10 : Int32) + l2))).bind fun o10 => (k_Fi_put x.2.2.2.2.1.1.1 l1 (((10 : Int32) + l2)) l3).bind fun o11 => (k_Fi_put o11 l1 (((7 : Int32) + l2)) l3).bind fun o12 => some (o10, (x.1, x.2.1, x.2.2.1, x.2.2.2.1, ((o12, x.2.2.2.2.1.1.2.1, x.2.2.2.2.1.1.2.2), x.2.2.2.2.1.2.1, x.2.2.2.2.1.2.2.1, x.2.2.2.2.1.2.2.2), o9, x.2.2.2.2.2.2)) else (k_EL_refuse x ((2 : Int32))).bind fun o13 => some (o13.1, o13.2)))) else some ((-1 : Int32), x))))
set_option maxRecDepth 20000 in
theorem c_EL_amount (c : zY) (q : Nat → Nat) (x : zsX) (l1 : Int32) (l2 : Int32) (l3 : Int32) {out : Int32 × zsX} (h : k_EL_amount x l1 l2 l3 = some out) : KM zy_EL_amount zb_EL_amount 5 (some .int) 5 c [.ref ((q 17)), .int l1, .int l2, .int l3] (zwX c q x) (zwX c q out.2) (some (.int out.1)) := zK_of zp_EL rfl (Nat.le_of_ble_eq_true rfl) (zq_EL c q _ _) (fun X hX hR => by
  show Go X (zwX c q x) [(0, .ref ((q 17))), (1, .int l1), (2, .int l2), (3, .int l3)] 0 []
  rw [k_EL_amount] at h
  refine g_aload_n (pc := 0) hX d_EL_amount_0 rfl 0 rfl ?_
  refine gf_EL_10 (pc := 1) (v := .ref ((q 12))) hX 3 rfl rfl d_EL_amount_1 ?_
  refine gf_EL_59 (pc := 4) (v := .ref ((q 6))) hX 19 rfl rfl d_EL_amount_4 ?_
  refine g_iload_n (pc := 7) hX d_EL_amount_7 rfl 1 rfl ?_
  obtain ⟨o1, e1, h⟩ := zbind h
  refine g_cvI (pc := 8)  (st := []) (w' := (zwX c q x)) hX zk_Fi_has zs_Fi_has zL_EL_94 (c_Fi_has c q x.2.2.2.2.1.1.1 l1 e1) rfl rfl rfl rfl (sp_EL_Fi_7 c q x) (sp_EL_Fi_7 c q x).symm 13 3 rfl rfl rfl d_EL_amount_8 ?_
  refine g_if_eq (pc := 11) (tgt := 23) hX d_EL_amount_11 (by decide) h (fun c2 h => ?_) (fun c2 h => ?_)
  · refine g_iconst (pc := 23) hX d_EL_amount_23 zc_m1 ?_
    obtain rfl := Option.some.inj h
    exact g_iret (pc := 24) hX hR d_EL_amount_24
  · refine g_iload_n (pc := 14) hX d_EL_amount_14 rfl 2 rfl ?_
    refine g_if_lt (pc := 15) (tgt := 23) hX d_EL_amount_15 (by decide) h (fun c3 h => ?_) (fun c3 h => ?_)
    · refine g_iconst (pc := 23) hX d_EL_amount_23 zc_m1 ?_
      obtain rfl := Option.some.inj h
      exact g_iret (pc := 24) hX hR d_EL_amount_24
    · refine g_iload_n (pc := 18) hX d_EL_amount_18 rfl 2 rfl ?_
      refine g_iconst (pc := 19) hX d_EL_amount_19 zc_3 ?_
      refine g_icmp_lt (pc := 20) (tgt := 25) hX d_EL_amount_20 (by decide) h (fun c4 h => ?_) (fun c4 h => ?_)
      · refine g_iload_n (pc := 25) hX d_EL_amount_25 rfl 3 rfl ?_
        refine g_if_lt (pc := 26) (tgt := 35) hX d_EL_amount_26 (by decide) h (fun c5 h => ?_) (fun c5 h => ?_)
        · refine g_bipush (pc := 35) hX d_EL_amount_35 ze_m2 ?_
          obtain rfl := Option.some.inj h
          exact g_iret (pc := 37) hX hR d_EL_amount_37
        · refine g_iload_n (pc := 29) hX d_EL_amount_29 rfl 3 rfl ?_
          refine g_bipush (pc := 30) hX d_EL_amount_30 ze_9 ?_
          refine g_icmp_le (pc := 32) (tgt := 38) hX d_EL_amount_32 (by decide) h (fun c6 h => ?_) (fun c6 h => ?_)
          · refine g_aload_n (pc := 38) hX d_EL_amount_38 rfl 0 rfl ?_
            refine gf_EL_10 (pc := 39) (v := .ref ((q 12))) hX 3 rfl rfl d_EL_amount_39 ?_
            refine gf_EL_97 (pc := 42) (v := .ref ((q 9))) hX 19 rfl rfl d_EL_amount_42 ?_
            obtain ⟨o7, e7, h⟩ := zbind h
            refine g_cvI (pc := 45)  (st := []) (w' := (zwX c q x)) hX zk_En_isOn zs_En_isOn zL_EL_101 (c_En_isOn c q x.2.2.2.2.1.1 e7) rfl rfl rfl rfl (sp_EL_En_7 c q x) (sp_EL_En_7 c q x).symm 16 2 rfl rfl rfl d_EL_amount_45 ?_
            refine g_if_eq (pc := 48) (tgt := 57) hX d_EL_amount_48 (by decide) h (fun c8 h => ?_) (fun c8 h => ?_)
            · refine g_aload_n (pc := 57) hX d_EL_amount_57 rfl 0 rfl ?_
              refine gf_EL_22 (pc := 58) (v := .ref ((q 24))) hX 3 rfl rfl d_EL_amount_58 ?_
              refine g_aload_n (pc := 61) hX d_EL_amount_61 rfl 0 rfl ?_
              refine gf_EL_10 (pc := 62) (v := .ref ((q 12))) hX 3 rfl rfl d_EL_amount_62 ?_
              obtain ⟨o9, e9, h⟩ := zbind h
              refine g_cvV (pc := 65) (st := []) (w' := (zwX c q ((x.1, x.2.1, x.2.2.1, x.2.2.2.1, x.2.2.2.2.1, o9, x.2.2.2.2.2.2)))) hX zk_Ch_keep zs_Ch_keep zL_EL_69 (c_Ch_keep c q x.2.2.2.2.1 x.2.2.2.2.2.1 e9) rfl rfl rfl rfl (sp_KN c q x) (sq_KN c q x o9) 24 0 rfl rfl rfl d_EL_amount_65 ?_
              refine g_aload_n (pc := 68) hX d_EL_amount_68 rfl 0 rfl ?_
              refine gf_EL_10 (pc := 69) (v := .ref ((q 12))) hX 3 rfl rfl d_EL_amount_69 ?_
              refine gf_EL_59 (pc := 72) (v := .ref ((q 6))) hX 19 rfl rfl d_EL_amount_72 ?_
              refine g_iload_n (pc := 75) hX d_EL_amount_75 rfl 1 rfl ?_
              refine g_bipush (pc := 76) hX d_EL_amount_76 ze_10 ?_
              refine g_iload_n (pc := 78) hX d_EL_amount_78 rfl 2 rfl ?_
              refine g_iadd (pc := 79) hX d_EL_amount_79 ?_
              obtain ⟨o10, e10, h⟩ := zbind h
              refine g_cvI (pc := 80)  (st := []) (w' := (zwX c q ((x.1, x.2.1, x.2.2.1, x.2.2.2.1, x.2.2.2.2.1, o9, x.2.2.2.2.2.2)))) hX zk_Fi_at zs_Fi_at zL_EL_107 (c_Fi_at c q x.2.2.2.2.1.1.1 l1 (((10 : Int32) + l2)) e10) rfl rfl rfl rfl (sp_EL_Fi_7 c q ((x.1, x.2.1, x.2.2.1, x.2.2.2.1, x.2.2.2.2.1, o9, x.2.2.2.2.2.2))) (sp_EL_Fi_7 c q ((x.1, x.2.1, x.2.2.1, x.2.2.2.1, x.2.2.2.2.1, o9, x.2.2.2.2.2.2))).symm 13 3 rfl rfl rfl d_EL_amount_80 ?_
              refine g_istore (pc := 83) (L' := [(4, .int o10), (0, .ref ((q 17))), (1, .int l1), (2, .int l2), (3, .int l3)]) hX d_EL_amount_83 rfl rfl ?_
              refine g_aload_n (pc := 85) hX d_EL_amount_85 rfl 1 rfl ?_
              refine gf_EL_10 (pc := 86) (v := .ref ((q 12))) hX 3 rfl rfl d_EL_amount_86 ?_
              refine gf_EL_59 (pc := 89) (v := .ref ((q 6))) hX 19 rfl rfl d_EL_amount_89 ?_
              refine g_iload_n (pc := 92) hX d_EL_amount_92 rfl 2 rfl ?_
              refine g_bipush (pc := 93) hX d_EL_amount_93 ze_10 ?_
              refine g_iload_n (pc := 95) hX d_EL_amount_95 rfl 3 rfl ?_
              refine g_iadd (pc := 96) hX d_EL_amount_96 ?_
              refine g_iload_n (pc := 97) hX d_EL_amount_97 rfl 4 rfl ?_
              obtain ⟨o11, e11, h⟩ := zbind h
              refine g_cvV (pc := 98)  (st := []) (w' := (zwX c q ((x.1, x.2.1, x.2.2.1, x.2.2.2.1, ((o11, x.2.2.2.2.1.1.2.1, x.2.2.2.2.1.1.2.2), x.2.2.2.2.1.2.1, x.2.2.2.2.1.2.2.1, x.2.2.2.2.1.2.2.2), o9, x.2.2.2.2.2.2)))) hX zk_Fi_put zs_Fi_put zL_EL_110 (c_Fi_put c q x.2.2.2.2.1.1.1 l1 (((10 : Int32) + l2)) l3 e11) rfl rfl rfl rfl (sp_EL_Fi_7 c q ((x.1, x.2.1, x.2.2.1, x.2.2.2.1, x.2.2.2.2.1, o9, x.2.2.2.2.2.2))) (sq_EL_Fi_7 c q ((x.1, x.2.1, x.2.2.1, x.2.2.2.1, x.2.2.2.2.1, o9, x.2.2.2.2.2.2)) o11) 13 3 rfl rfl rfl d_EL_amount_98 ?_
              refine g_aload_n (pc := 101) hX d_EL_amount_101 rfl 1 rfl ?_
              refine gf_EL_10 (pc := 102) (v := .ref ((q 12))) hX 3 rfl rfl d_EL_amount_102 ?_
              refine gf_EL_59 (pc := 105) (v := .ref ((q 6))) hX 19 rfl rfl d_EL_amount_105 ?_
              refine g_iload_n (pc := 108) hX d_EL_amount_108 rfl 2 rfl ?_
              refine g_bipush (pc := 109) hX d_EL_amount_109 ze_7 ?_
              refine g_iload_n (pc := 111) hX d_EL_amount_111 rfl 3 rfl ?_
              refine g_iadd (pc := 112) hX d_EL_amount_112 ?_
              refine g_iload_n (pc := 113) hX d_EL_amount_113 rfl 4 rfl ?_
              obtain ⟨o12, e12, h⟩ := zbind h
              refine g_cvV (pc := 114)  (st := []) (w' := (zwX c q ((x.1, x.2.1, x.2.2.1, x.2.2.2.1, ((o12, x.2.2.2.2.1.1.2.1, x.2.2.2.2.1.1.2.2), x.2.2.2.2.1.2.1, x.2.2.2.2.1.2.2.1, x.2.2.2.2.1.2.2.2), o9, x.2.2.2.2.2.2)))) hX zk_Fi_put zs_Fi_put zL_EL_110 (c_Fi_put c q o11 l1 (((7 : Int32) + l2)) l3 e12) rfl rfl rfl rfl (sp_EL_Fi_7 c q ((x.1, x.2.1, x.2.2.1, x.2.2.2.1, ((o11, x.2.2.2.2.1.1.2.1, x.2.2.2.2.1.1.2.2), x.2.2.2.2.1.2.1, x.2.2.2.2.1.2.2.1, x.2.2.2.2.1.2.2.2), o9, x.2.2.2.2.2.2))) (sq_EL_Fi_7 c q ((x.1, x.2.1, x.2.2.1, x.2.2.2.1, ((o11, x.2.2.2.2.1.1.2.1, x.2.2.2.2.1.1.2.2), x.2.2.2.2.1.2.1, x.2.2.2.2.1.2.2.1, x.2.2.2.2.1.2.2.2), o9, x.2.2.2.2.2.2)) o12) 13 3 rfl rfl rfl d_EL_amount_114 ?_
              refine g_iload (pc := 117) hX d_EL_amount_117 0 rfl ?_
              obtain rfl := Option.some.inj h
              exact g_iret (pc := 119) hX hR d_EL_amount_119
            · refine g_aload_n (pc := 51) hX d_EL_amount_51 rfl 0 rfl ?_
              refine g_iconst (pc := 52) hX d_EL_amount_52 zc_2 ?_
              obtain ⟨o13, e13, h⟩ := zbind h
              refine g_cvI (pc := 53) (w1 := []) (w2 := []) (st := []) (w' := (zwX c q o13.2)) hX zk_EL_refuse zs_EL_refuse zL_EL_55 (c_EL_refuse c q x ((2 : Int32)) e13) rfl rfl rfl rfl (zself _) (zself _).symm 3 9 rfl rfl rfl d_EL_amount_53 ?_
              obtain rfl := Option.some.inj h
              exact g_iret (pc := 56) hX hR d_EL_amount_56
          · refine g_bipush (pc := 35) hX d_EL_amount_35 ze_m2 ?_
            obtain rfl := Option.some.inj h
            exact g_iret (pc := 37) hX hR d_EL_amount_37
      · refine g_iconst (pc := 23) hX d_EL_amount_23 zc_m1 ?_
        obtain rfl := Option.some.inj h
        exact g_iret (pc := 24) hX hR d_EL_amount_24)
theorem d_EL_begin_0 : decode zb_EL_begin 0 = .ok (.aload_n 0, 1) := by decide +kernel
theorem d_EL_begin_1 : decode zb_EL_begin 1 = .ok (.getfield 10, 3) := by decide +kernel
theorem d_EL_begin_4 : decode zb_EL_begin 4 = .ok (.getfield 97, 3) := by decide +kernel
theorem d_EL_begin_7 : decode zb_EL_begin 7 = .ok (.invokevirtual 101, 3) := by decide +kernel
theorem d_EL_begin_10 : decode zb_EL_begin 10 = .ok (.ifCond .eq 9, 3) := by decide +kernel
theorem d_EL_begin_13 : decode zb_EL_begin 13 = .ok (.aload_n 0, 1) := by decide +kernel
theorem d_EL_begin_14 : decode zb_EL_begin 14 = .ok (.iconst 2, 1) := by decide +kernel
theorem d_EL_begin_15 : decode zb_EL_begin 15 = .ok (.invokevirtual 55, 3) := by decide +kernel
theorem d_EL_begin_18 : decode zb_EL_begin 18 = .ok (.ireturn, 1) := by decide +kernel
theorem d_EL_begin_19 : decode zb_EL_begin 19 = .ok (.aload_n 0, 1) := by decide +kernel
theorem d_EL_begin_20 : decode zb_EL_begin 20 = .ok (.getfield 10, 3) := by decide +kernel
theorem d_EL_begin_23 : decode zb_EL_begin 23 = .ok (.getfield 59, 3) := by decide +kernel
theorem d_EL_begin_26 : decode zb_EL_begin 26 = .ok (.invokevirtual 63, 3) := by decide +kernel
theorem d_EL_begin_29 : decode zb_EL_begin 29 = .ok (.ifCond .ne 10, 3) := by decide +kernel
theorem d_EL_begin_32 : decode zb_EL_begin 32 = .ok (.aload_n 0, 1) := by decide +kernel
theorem d_EL_begin_33 : decode zb_EL_begin 33 = .ok (.bipush 10, 2) := by decide +kernel
theorem d_EL_begin_35 : decode zb_EL_begin 35 = .ok (.invokevirtual 55, 3) := by decide +kernel
theorem d_EL_begin_38 : decode zb_EL_begin 38 = .ok (.ireturn, 1) := by decide +kernel
theorem d_EL_begin_39 : decode zb_EL_begin 39 = .ok (.aload_n 0, 1) := by decide +kernel
theorem d_EL_begin_40 : decode zb_EL_begin 40 = .ok (.getfield 22, 3) := by decide +kernel
theorem d_EL_begin_43 : decode zb_EL_begin 43 = .ok (.aload_n 0, 1) := by decide +kernel
theorem d_EL_begin_44 : decode zb_EL_begin 44 = .ok (.getfield 10, 3) := by decide +kernel
theorem d_EL_begin_47 : decode zb_EL_begin 47 = .ok (.invokevirtual 69, 3) := by decide +kernel
theorem d_EL_begin_50 : decode zb_EL_begin 50 = .ok (.aload_n 0, 1) := by decide +kernel
theorem d_EL_begin_51 : decode zb_EL_begin 51 = .ok (.getfield 10, 3) := by decide +kernel
theorem d_EL_begin_54 : decode zb_EL_begin 54 = .ok (.getfield 97, 3) := by decide +kernel
theorem d_EL_begin_57 : decode zb_EL_begin 57 = .ok (.iload_n 1, 1) := by decide +kernel
theorem d_EL_begin_58 : decode zb_EL_begin 58 = .ok (.invokevirtual 113, 3) := by decide +kernel
theorem d_EL_begin_61 : decode zb_EL_begin 61 = .ok (.aload_n 0, 1) := by decide +kernel
theorem d_EL_begin_62 : decode zb_EL_begin 62 = .ok (.getfield 10, 3) := by decide +kernel
theorem d_EL_begin_65 : decode zb_EL_begin 65 = .ok (.getfield 97, 3) := by decide +kernel
theorem d_EL_begin_68 : decode zb_EL_begin 68 = .ok (.invokevirtual 117, 3) := by decide +kernel
theorem d_EL_begin_71 : decode zb_EL_begin 71 = .ok (.aload_n 0, 1) := by decide +kernel
theorem d_EL_begin_72 : decode zb_EL_begin 72 = .ok (.getfield 10, 3) := by decide +kernel
theorem d_EL_begin_75 : decode zb_EL_begin 75 = .ok (.getfield 97, 3) := by decide +kernel
theorem d_EL_begin_78 : decode zb_EL_begin 78 = .ok (.invokevirtual 120, 3) := by decide +kernel
theorem d_EL_begin_81 : decode zb_EL_begin 81 = .ok (.ireturn, 1) := by decide +kernel
def k_EL_begin (x : zsX) (l1 : Int32) : Option (Int32 × zsX) := (k_En_isOn x.2.2.2.2.1.1).bind fun o1 => (if o1 = 0 then (k_Fi_size x.2.2.2.2.1.1.1).bind fun o3 => (if o3 = 0 then (k_EL_refuse x ((10 : Int32))).bind fun o9 => some (o9.1, o9.2) else (k_Ch_keep x.2.2.2.2.1 x.2.2.2.2.2.1).bind fun o5 => (k_En_open x.2.2.2.2.1.1 l1).bind fun o6 => (k_En_startTurn o6).bind fun o7 => (k_En_current o7).bind fun o8 => some (o8, (x.1, x.2.1, x.2.2.1, x.2.2.2.1, (o7, x.2.2.2.2.1.2.1, x.2.2.2.2.1.2.2.1, x.2.2.2.2.1.2.2.2), o5, x.2.2.2.2.2.2))) else (k_EL_refuse x ((2 : Int32))).bind fun o10 => some (o10.1, o10.2))
set_option maxRecDepth 20000 in
theorem c_EL_begin (c : zY) (q : Nat → Nat) (x : zsX) (l1 : Int32) {out : Int32 × zsX} (h : k_EL_begin x l1 = some out) : KM zy_EL_begin zb_EL_begin 2 (some .int) 7 c [.ref ((q 17)), .int l1] (zwX c q x) (zwX c q out.2) (some (.int out.1)) := zK_of zp_EL rfl (Nat.le_of_ble_eq_true rfl) (zq_EL c q _ _) (fun X hX hR => by
  show Go X (zwX c q x) [(0, .ref ((q 17))), (1, .int l1)] 0 []
  rw [k_EL_begin] at h
  refine g_aload_n (pc := 0) hX d_EL_begin_0 rfl 0 rfl ?_
  refine gf_EL_10 (pc := 1) (v := .ref ((q 12))) hX 3 rfl rfl d_EL_begin_1 ?_
  refine gf_EL_97 (pc := 4) (v := .ref ((q 9))) hX 19 rfl rfl d_EL_begin_4 ?_
  obtain ⟨o1, e1, h⟩ := zbind h
  refine g_cvI (pc := 7)  (st := []) (w' := (zwX c q x)) hX zk_En_isOn zs_En_isOn zL_EL_101 (c_En_isOn c q x.2.2.2.2.1.1 e1) rfl rfl rfl rfl (sp_EL_En_7 c q x) (sp_EL_En_7 c q x).symm 16 2 rfl rfl rfl d_EL_begin_7 ?_
  refine g_if_eq (pc := 10) (tgt := 19) hX d_EL_begin_10 (by decide) h (fun c2 h => ?_) (fun c2 h => ?_)
  · refine g_aload_n (pc := 19) hX d_EL_begin_19 rfl 0 rfl ?_
    refine gf_EL_10 (pc := 20) (v := .ref ((q 12))) hX 3 rfl rfl d_EL_begin_20 ?_
    refine gf_EL_59 (pc := 23) (v := .ref ((q 6))) hX 19 rfl rfl d_EL_begin_23 ?_
    obtain ⟨o3, e3, h⟩ := zbind h
    refine g_cvI (pc := 26)  (st := []) (w' := (zwX c q x)) hX zk_Fi_size zs_Fi_size zL_EL_63 (c_Fi_size c q x.2.2.2.2.1.1.1 e3) rfl rfl rfl rfl (sp_EL_Fi_7 c q x) (sp_EL_Fi_7 c q x).symm 13 3 rfl rfl rfl d_EL_begin_26 ?_
    refine g_if_ne (pc := 29) (tgt := 39) hX d_EL_begin_29 (by decide) h (fun c4 h => ?_) (fun c4 h => ?_)
    · refine g_aload_n (pc := 39) hX d_EL_begin_39 rfl 0 rfl ?_
      refine gf_EL_22 (pc := 40) (v := .ref ((q 24))) hX 3 rfl rfl d_EL_begin_40 ?_
      refine g_aload_n (pc := 43) hX d_EL_begin_43 rfl 0 rfl ?_
      refine gf_EL_10 (pc := 44) (v := .ref ((q 12))) hX 3 rfl rfl d_EL_begin_44 ?_
      obtain ⟨o5, e5, h⟩ := zbind h
      refine g_cvV (pc := 47) (st := []) (w' := (zwX c q ((x.1, x.2.1, x.2.2.1, x.2.2.2.1, x.2.2.2.2.1, o5, x.2.2.2.2.2.2)))) hX zk_Ch_keep zs_Ch_keep zL_EL_69 (c_Ch_keep c q x.2.2.2.2.1 x.2.2.2.2.2.1 e5) rfl rfl rfl rfl (sp_KN c q x) (sq_KN c q x o5) 24 0 rfl rfl rfl d_EL_begin_47 ?_
      refine g_aload_n (pc := 50) hX d_EL_begin_50 rfl 0 rfl ?_
      refine gf_EL_10 (pc := 51) (v := .ref ((q 12))) hX 3 rfl rfl d_EL_begin_51 ?_
      refine gf_EL_97 (pc := 54) (v := .ref ((q 9))) hX 19 rfl rfl d_EL_begin_54 ?_
      refine g_iload_n (pc := 57) hX d_EL_begin_57 rfl 1 rfl ?_
      obtain ⟨o6, e6, h⟩ := zbind h
      refine g_cvV (pc := 58)  (st := []) (w' := (zwX c q ((x.1, x.2.1, x.2.2.1, x.2.2.2.1, (o6, x.2.2.2.2.1.2.1, x.2.2.2.2.1.2.2.1, x.2.2.2.2.1.2.2.2), o5, x.2.2.2.2.2.2)))) hX zk_En_open zs_En_open zL_EL_113 (c_En_open c q x.2.2.2.2.1.1 l1 e6) rfl rfl rfl rfl (sp_EL_En_7 c q ((x.1, x.2.1, x.2.2.1, x.2.2.2.1, x.2.2.2.2.1, o5, x.2.2.2.2.2.2))) (sq_EL_En_7 c q ((x.1, x.2.1, x.2.2.1, x.2.2.2.1, x.2.2.2.2.1, o5, x.2.2.2.2.2.2)) o6) 16 2 rfl rfl rfl d_EL_begin_58 ?_
      refine g_aload_n (pc := 61) hX d_EL_begin_61 rfl 0 rfl ?_
      refine gf_EL_10 (pc := 62) (v := .ref ((q 12))) hX 3 rfl rfl d_EL_begin_62 ?_
      refine gf_EL_97 (pc := 65) (v := .ref ((q 9))) hX 19 rfl rfl d_EL_begin_65 ?_
      obtain ⟨o7, e7, h⟩ := zbind h
      refine g_cvV (pc := 68)  (st := []) (w' := (zwX c q ((x.1, x.2.1, x.2.2.1, x.2.2.2.1, (o7, x.2.2.2.2.1.2.1, x.2.2.2.2.1.2.2.1, x.2.2.2.2.1.2.2.2), o5, x.2.2.2.2.2.2)))) hX zk_En_startTurn zs_En_startTurn zL_EL_117 (c_En_startTurn c q o6 e7) rfl rfl rfl rfl (sp_EL_En_7 c q ((x.1, x.2.1, x.2.2.1, x.2.2.2.1, (o6, x.2.2.2.2.1.2.1, x.2.2.2.2.1.2.2.1, x.2.2.2.2.1.2.2.2), o5, x.2.2.2.2.2.2))) (sq_EL_En_7 c q ((x.1, x.2.1, x.2.2.1, x.2.2.2.1, (o6, x.2.2.2.2.1.2.1, x.2.2.2.2.1.2.2.1, x.2.2.2.2.1.2.2.2), o5, x.2.2.2.2.2.2)) o7) 16 2 rfl rfl rfl d_EL_begin_68 ?_
      refine g_aload_n (pc := 71) hX d_EL_begin_71 rfl 0 rfl ?_
      refine gf_EL_10 (pc := 72) (v := .ref ((q 12))) hX 3 rfl rfl d_EL_begin_72 ?_
      refine gf_EL_97 (pc := 75) (v := .ref ((q 9))) hX 19 rfl rfl d_EL_begin_75 ?_
      obtain ⟨o8, e8, h⟩ := zbind h
      refine g_cvI (pc := 78)  (st := []) (w' := (zwX c q ((x.1, x.2.1, x.2.2.1, x.2.2.2.1, (o7, x.2.2.2.2.1.2.1, x.2.2.2.2.1.2.2.1, x.2.2.2.2.1.2.2.2), o5, x.2.2.2.2.2.2)))) hX zk_En_current zs_En_current zL_EL_120 (c_En_current c q o7 e8) rfl rfl rfl rfl (sp_EL_En_7 c q ((x.1, x.2.1, x.2.2.1, x.2.2.2.1, (o7, x.2.2.2.2.1.2.1, x.2.2.2.2.1.2.2.1, x.2.2.2.2.1.2.2.2), o5, x.2.2.2.2.2.2))) (sp_EL_En_7 c q ((x.1, x.2.1, x.2.2.1, x.2.2.2.1, (o7, x.2.2.2.2.1.2.1, x.2.2.2.2.1.2.2.1, x.2.2.2.2.1.2.2.2), o5, x.2.2.2.2.2.2))).symm 16 2 rfl rfl rfl d_EL_begin_78 ?_
      obtain rfl := Option.some.inj h
      exact g_iret (pc := 81) hX hR d_EL_begin_81
    · refine g_aload_n (pc := 32) hX d_EL_begin_32 rfl 0 rfl ?_
      refine g_bipush (pc := 33) hX d_EL_begin_33 ze_10 ?_
      obtain ⟨o9, e9, h⟩ := zbind h
      refine g_cvI (pc := 35) (w1 := []) (w2 := []) (st := []) (w' := (zwX c q o9.2)) hX zk_EL_refuse zs_EL_refuse zL_EL_55 (c_EL_refuse c q x ((10 : Int32)) e9) rfl rfl rfl rfl (zself _) (zself _).symm 3 9 rfl rfl rfl d_EL_begin_35 ?_
      obtain rfl := Option.some.inj h
      exact g_iret (pc := 38) hX hR d_EL_begin_38
  · refine g_aload_n (pc := 13) hX d_EL_begin_13 rfl 0 rfl ?_
    refine g_iconst (pc := 14) hX d_EL_begin_14 zc_2 ?_
    obtain ⟨o10, e10, h⟩ := zbind h
    refine g_cvI (pc := 15) (w1 := []) (w2 := []) (st := []) (w' := (zwX c q o10.2)) hX zk_EL_refuse zs_EL_refuse zL_EL_55 (c_EL_refuse c q x ((2 : Int32)) e10) rfl rfl rfl rfl (zself _) (zself _).symm 3 9 rfl rfl rfl d_EL_begin_15 ?_
    obtain rfl := Option.some.inj h
    exact g_iret (pc := 18) hX hR d_EL_begin_18)
theorem d_EL_finish_0 : decode zb_EL_finish 0 = .ok (.aload_n 0, 1) := by decide +kernel
theorem d_EL_finish_1 : decode zb_EL_finish 1 = .ok (.getfield 10, 3) := by decide +kernel
theorem d_EL_finish_4 : decode zb_EL_finish 4 = .ok (.getfield 97, 3) := by decide +kernel
theorem d_EL_finish_7 : decode zb_EL_finish 7 = .ok (.invokevirtual 101, 3) := by decide +kernel
theorem d_EL_finish_10 : decode zb_EL_finish 10 = .ok (.ifCond .ne 9, 3) := by decide +kernel
theorem d_EL_finish_13 : decode zb_EL_finish 13 = .ok (.aload_n 0, 1) := by decide +kernel
theorem d_EL_finish_14 : decode zb_EL_finish 14 = .ok (.iconst 1, 1) := by decide +kernel
theorem d_EL_finish_15 : decode zb_EL_finish 15 = .ok (.invokevirtual 55, 3) := by decide +kernel
theorem d_EL_finish_18 : decode zb_EL_finish 18 = .ok (.ireturn, 1) := by decide +kernel
theorem d_EL_finish_19 : decode zb_EL_finish 19 = .ok (.aload_n 0, 1) := by decide +kernel
theorem d_EL_finish_20 : decode zb_EL_finish 20 = .ok (.getfield 22, 3) := by decide +kernel
theorem d_EL_finish_23 : decode zb_EL_finish 23 = .ok (.aload_n 0, 1) := by decide +kernel
theorem d_EL_finish_24 : decode zb_EL_finish 24 = .ok (.getfield 10, 3) := by decide +kernel
theorem d_EL_finish_27 : decode zb_EL_finish 27 = .ok (.invokevirtual 69, 3) := by decide +kernel
theorem d_EL_finish_30 : decode zb_EL_finish 30 = .ok (.aload_n 0, 1) := by decide +kernel
theorem d_EL_finish_31 : decode zb_EL_finish 31 = .ok (.getfield 10, 3) := by decide +kernel
theorem d_EL_finish_34 : decode zb_EL_finish 34 = .ok (.getfield 97, 3) := by decide +kernel
theorem d_EL_finish_37 : decode zb_EL_finish 37 = .ok (.getfield 123, 3) := by decide +kernel
theorem d_EL_finish_40 : decode zb_EL_finish 40 = .ok (.istore_n 1, 1) := by decide +kernel
theorem d_EL_finish_41 : decode zb_EL_finish 41 = .ok (.aload_n 0, 1) := by decide +kernel
theorem d_EL_finish_42 : decode zb_EL_finish 42 = .ok (.getfield 10, 3) := by decide +kernel
theorem d_EL_finish_45 : decode zb_EL_finish 45 = .ok (.getfield 97, 3) := by decide +kernel
theorem d_EL_finish_48 : decode zb_EL_finish 48 = .ok (.invokevirtual 126, 3) := by decide +kernel
theorem d_EL_finish_51 : decode zb_EL_finish 51 = .ok (.iload_n 1, 1) := by decide +kernel
theorem d_EL_finish_52 : decode zb_EL_finish 52 = .ok (.ireturn, 1) := by decide +kernel
def k_EL_finish (x : zsX) : Option (Int32 × zsX) := (k_En_isOn x.2.2.2.2.1.1).bind fun o1 => (if o1 = 0 then (k_EL_refuse x ((1 : Int32))).bind fun o5 => some (o5.1, o5.2) else (k_Ch_keep x.2.2.2.2.1 x.2.2.2.2.2.1).bind fun o3 => (k_En_close x.2.2.2.2.1.1).bind fun o4 => some ((x.2.2.2.2.1.1.2.2 4), (x.1, x.2.1, x.2.2.1, x.2.2.2.1, (o4, x.2.2.2.2.1.2.1, x.2.2.2.2.1.2.2.1, x.2.2.2.2.1.2.2.2), o3, x.2.2.2.2.2.2)))
set_option maxRecDepth 20000 in
theorem c_EL_finish (c : zY) (q : Nat → Nat) (x : zsX) {out : Int32 × zsX} (h : k_EL_finish x = some out) : KM zy_EL_finish zb_EL_finish 2 (some .int) 5 c [.ref ((q 17))] (zwX c q x) (zwX c q out.2) (some (.int out.1)) := zK_of zp_EL rfl (Nat.le_of_ble_eq_true rfl) (zq_EL c q _ _) (fun X hX hR => by
  show Go X (zwX c q x) [(0, .ref ((q 17)))] 0 []
  rw [k_EL_finish] at h
  refine g_aload_n (pc := 0) hX d_EL_finish_0 rfl 0 rfl ?_
  refine gf_EL_10 (pc := 1) (v := .ref ((q 12))) hX 3 rfl rfl d_EL_finish_1 ?_
  refine gf_EL_97 (pc := 4) (v := .ref ((q 9))) hX 19 rfl rfl d_EL_finish_4 ?_
  obtain ⟨o1, e1, h⟩ := zbind h
  refine g_cvI (pc := 7)  (st := []) (w' := (zwX c q x)) hX zk_En_isOn zs_En_isOn zL_EL_101 (c_En_isOn c q x.2.2.2.2.1.1 e1) rfl rfl rfl rfl (sp_EL_En_7 c q x) (sp_EL_En_7 c q x).symm 16 2 rfl rfl rfl d_EL_finish_7 ?_
  refine g_if_ne (pc := 10) (tgt := 19) hX d_EL_finish_10 (by decide) h (fun c2 h => ?_) (fun c2 h => ?_)
  · refine g_aload_n (pc := 19) hX d_EL_finish_19 rfl 0 rfl ?_
    refine gf_EL_22 (pc := 20) (v := .ref ((q 24))) hX 3 rfl rfl d_EL_finish_20 ?_
    refine g_aload_n (pc := 23) hX d_EL_finish_23 rfl 0 rfl ?_
    refine gf_EL_10 (pc := 24) (v := .ref ((q 12))) hX 3 rfl rfl d_EL_finish_24 ?_
    obtain ⟨o3, e3, h⟩ := zbind h
    refine g_cvV (pc := 27) (st := []) (w' := (zwX c q ((x.1, x.2.1, x.2.2.1, x.2.2.2.1, x.2.2.2.2.1, o3, x.2.2.2.2.2.2)))) hX zk_Ch_keep zs_Ch_keep zL_EL_69 (c_Ch_keep c q x.2.2.2.2.1 x.2.2.2.2.2.1 e3) rfl rfl rfl rfl (sp_KN c q x) (sq_KN c q x o3) 24 0 rfl rfl rfl d_EL_finish_27 ?_
    refine g_aload_n (pc := 30) hX d_EL_finish_30 rfl 0 rfl ?_
    refine gf_EL_10 (pc := 31) (v := .ref ((q 12))) hX 3 rfl rfl d_EL_finish_31 ?_
    refine gf_EL_97 (pc := 34) (v := .ref ((q 9))) hX 19 rfl rfl d_EL_finish_34 ?_
    refine gf_EL_123 (pc := 37) (v := .int ((x.2.2.2.2.1.1.2.2 4))) hX 16 rfl rfl d_EL_finish_37 ?_
    refine g_istore_n (pc := 40) (L' := [(1, .int ((x.2.2.2.2.1.1.2.2 4))), (0, .ref ((q 17)))]) hX d_EL_finish_40 rfl rfl rfl ?_
    refine g_aload_n (pc := 41) hX d_EL_finish_41 rfl 1 rfl ?_
    refine gf_EL_10 (pc := 42) (v := .ref ((q 12))) hX 3 rfl rfl d_EL_finish_42 ?_
    refine gf_EL_97 (pc := 45) (v := .ref ((q 9))) hX 19 rfl rfl d_EL_finish_45 ?_
    obtain ⟨o4, e4, h⟩ := zbind h
    refine g_cvV (pc := 48)  (st := []) (w' := (zwX c q ((x.1, x.2.1, x.2.2.1, x.2.2.2.1, (o4, x.2.2.2.2.1.2.1, x.2.2.2.2.1.2.2.1, x.2.2.2.2.1.2.2.2), o3, x.2.2.2.2.2.2)))) hX zk_En_close zs_En_close zL_EL_126 (c_En_close c q x.2.2.2.2.1.1 e4) rfl rfl rfl rfl (sp_EL_En_7 c q ((x.1, x.2.1, x.2.2.1, x.2.2.2.1, x.2.2.2.2.1, o3, x.2.2.2.2.2.2))) (sq_EL_En_7 c q ((x.1, x.2.1, x.2.2.1, x.2.2.2.1, x.2.2.2.2.1, o3, x.2.2.2.2.2.2)) o4) 16 2 rfl rfl rfl d_EL_finish_48 ?_
    refine g_iload_n (pc := 51) hX d_EL_finish_51 rfl 0 rfl ?_
    obtain rfl := Option.some.inj h
    exact g_iret (pc := 52) hX hR d_EL_finish_52
  · refine g_aload_n (pc := 13) hX d_EL_finish_13 rfl 0 rfl ?_
    refine g_iconst (pc := 14) hX d_EL_finish_14 zc_1 ?_
    obtain ⟨o5, e5, h⟩ := zbind h
    refine g_cvI (pc := 15) (w1 := []) (w2 := []) (st := []) (w' := (zwX c q o5.2)) hX zk_EL_refuse zs_EL_refuse zL_EL_55 (c_EL_refuse c q x ((1 : Int32)) e5) rfl rfl rfl rfl (zself _) (zself _).symm 3 9 rfl rfl rfl d_EL_finish_15 ?_
    obtain rfl := Option.some.inj h
    exact g_iret (pc := 18) hX hR d_EL_finish_18)
theorem d_EL_endTurn_0 : decode zb_EL_endTurn 0 = .ok (.aload_n 0, 1) := by decide +kernel
theorem d_EL_endTurn_1 : decode zb_EL_endTurn 1 = .ok (.getfield 10, 3) := by decide +kernel
theorem d_EL_endTurn_4 : decode zb_EL_endTurn 4 = .ok (.getfield 97, 3) := by decide +kernel
theorem d_EL_endTurn_7 : decode zb_EL_endTurn 7 = .ok (.invokevirtual 101, 3) := by decide +kernel
theorem d_EL_endTurn_10 : decode zb_EL_endTurn 10 = .ok (.ifCond .ne 9, 3) := by decide +kernel
theorem d_EL_endTurn_13 : decode zb_EL_endTurn 13 = .ok (.aload_n 0, 1) := by decide +kernel
theorem d_EL_endTurn_14 : decode zb_EL_endTurn 14 = .ok (.iconst 1, 1) := by decide +kernel
theorem d_EL_endTurn_15 : decode zb_EL_endTurn 15 = .ok (.invokevirtual 55, 3) := by decide +kernel
theorem d_EL_endTurn_18 : decode zb_EL_endTurn 18 = .ok (.ireturn, 1) := by decide +kernel
theorem d_EL_endTurn_19 : decode zb_EL_endTurn 19 = .ok (.aload_n 0, 1) := by decide +kernel
theorem d_EL_endTurn_20 : decode zb_EL_endTurn 20 = .ok (.getfield 22, 3) := by decide +kernel
theorem d_EL_endTurn_23 : decode zb_EL_endTurn 23 = .ok (.aload_n 0, 1) := by decide +kernel
theorem d_EL_endTurn_24 : decode zb_EL_endTurn 24 = .ok (.getfield 10, 3) := by decide +kernel
theorem d_EL_endTurn_27 : decode zb_EL_endTurn 27 = .ok (.invokevirtual 69, 3) := by decide +kernel
theorem d_EL_endTurn_30 : decode zb_EL_endTurn 30 = .ok (.aload_n 0, 1) := by decide +kernel
theorem d_EL_endTurn_31 : decode zb_EL_endTurn 31 = .ok (.getfield 10, 3) := by decide +kernel
theorem d_EL_endTurn_34 : decode zb_EL_endTurn 34 = .ok (.getfield 97, 3) := by decide +kernel
theorem d_EL_endTurn_37 : decode zb_EL_endTurn 37 = .ok (.invokevirtual 129, 3) := by decide +kernel
theorem d_EL_endTurn_40 : decode zb_EL_endTurn 40 = .ok (.aload_n 0, 1) := by decide +kernel
theorem d_EL_endTurn_41 : decode zb_EL_endTurn 41 = .ok (.getfield 10, 3) := by decide +kernel
theorem d_EL_endTurn_44 : decode zb_EL_endTurn 44 = .ok (.getfield 97, 3) := by decide +kernel
theorem d_EL_endTurn_47 : decode zb_EL_endTurn 47 = .ok (.invokevirtual 117, 3) := by decide +kernel
theorem d_EL_endTurn_50 : decode zb_EL_endTurn 50 = .ok (.aload_n 0, 1) := by decide +kernel
theorem d_EL_endTurn_51 : decode zb_EL_endTurn 51 = .ok (.getfield 10, 3) := by decide +kernel
theorem d_EL_endTurn_54 : decode zb_EL_endTurn 54 = .ok (.getfield 97, 3) := by decide +kernel
theorem d_EL_endTurn_57 : decode zb_EL_endTurn 57 = .ok (.invokevirtual 120, 3) := by decide +kernel
theorem d_EL_endTurn_60 : decode zb_EL_endTurn 60 = .ok (.ireturn, 1) := by decide +kernel
def k_EL_endTurn (x : zsX) : Option (Int32 × zsX) := (k_En_isOn x.2.2.2.2.1.1).bind fun o1 => (if o1 = 0 then (k_EL_refuse x ((1 : Int32))).bind fun o7 => some (o7.1, o7.2) else (k_Ch_keep x.2.2.2.2.1 x.2.2.2.2.2.1).bind fun o3 => (k_En_leaveTurn x.2.2.2.2.1.1).bind fun o4 => (k_En_startTurn o4).bind fun o5 => (k_En_current o5).bind fun o6 => some (o6, (x.1, x.2.1, x.2.2.1, x.2.2.2.1, (o5, x.2.2.2.2.1.2.1, x.2.2.2.2.1.2.2.1, x.2.2.2.2.1.2.2.2), o3, x.2.2.2.2.2.2)))
set_option maxRecDepth 20000 in
theorem c_EL_endTurn (c : zY) (q : Nat → Nat) (x : zsX) {out : Int32 × zsX} (h : k_EL_endTurn x = some out) : KM zy_EL_endTurn zb_EL_endTurn 1 (some .int) 7 c [.ref ((q 17))] (zwX c q x) (zwX c q out.2) (some (.int out.1)) := zK_of zp_EL rfl (Nat.le_of_ble_eq_true rfl) (zq_EL c q _ _) (fun X hX hR => by
  show Go X (zwX c q x) [(0, .ref ((q 17)))] 0 []
  rw [k_EL_endTurn] at h
  refine g_aload_n (pc := 0) hX d_EL_endTurn_0 rfl 0 rfl ?_
  refine gf_EL_10 (pc := 1) (v := .ref ((q 12))) hX 3 rfl rfl d_EL_endTurn_1 ?_
  refine gf_EL_97 (pc := 4) (v := .ref ((q 9))) hX 19 rfl rfl d_EL_endTurn_4 ?_
  obtain ⟨o1, e1, h⟩ := zbind h
  refine g_cvI (pc := 7)  (st := []) (w' := (zwX c q x)) hX zk_En_isOn zs_En_isOn zL_EL_101 (c_En_isOn c q x.2.2.2.2.1.1 e1) rfl rfl rfl rfl (sp_EL_En_7 c q x) (sp_EL_En_7 c q x).symm 16 2 rfl rfl rfl d_EL_endTurn_7 ?_
  refine g_if_ne (pc := 10) (tgt := 19) hX d_EL_endTurn_10 (by decide) h (fun c2 h => ?_) (fun c2 h => ?_)
  · refine g_aload_n (pc := 19) hX d_EL_endTurn_19 rfl 0 rfl ?_
    refine gf_EL_22 (pc := 20) (v := .ref ((q 24))) hX 3 rfl rfl d_EL_endTurn_20 ?_
    refine g_aload_n (pc := 23) hX d_EL_endTurn_23 rfl 0 rfl ?_
    refine gf_EL_10 (pc := 24) (v := .ref ((q 12))) hX 3 rfl rfl d_EL_endTurn_24 ?_
    obtain ⟨o3, e3, h⟩ := zbind h
    refine g_cvV (pc := 27) (st := []) (w' := (zwX c q ((x.1, x.2.1, x.2.2.1, x.2.2.2.1, x.2.2.2.2.1, o3, x.2.2.2.2.2.2)))) hX zk_Ch_keep zs_Ch_keep zL_EL_69 (c_Ch_keep c q x.2.2.2.2.1 x.2.2.2.2.2.1 e3) rfl rfl rfl rfl (sp_KN c q x) (sq_KN c q x o3) 24 0 rfl rfl rfl d_EL_endTurn_27 ?_
    refine g_aload_n (pc := 30) hX d_EL_endTurn_30 rfl 0 rfl ?_
    refine gf_EL_10 (pc := 31) (v := .ref ((q 12))) hX 3 rfl rfl d_EL_endTurn_31 ?_
    refine gf_EL_97 (pc := 34) (v := .ref ((q 9))) hX 19 rfl rfl d_EL_endTurn_34 ?_
    obtain ⟨o4, e4, h⟩ := zbind h
    refine g_cvV (pc := 37)  (st := []) (w' := (zwX c q ((x.1, x.2.1, x.2.2.1, x.2.2.2.1, (o4, x.2.2.2.2.1.2.1, x.2.2.2.2.1.2.2.1, x.2.2.2.2.1.2.2.2), o3, x.2.2.2.2.2.2)))) hX zk_En_leaveTurn zs_En_leaveTurn zL_EL_129 (c_En_leaveTurn c q x.2.2.2.2.1.1 e4) rfl rfl rfl rfl (sp_EL_En_7 c q ((x.1, x.2.1, x.2.2.1, x.2.2.2.1, x.2.2.2.2.1, o3, x.2.2.2.2.2.2))) (sq_EL_En_7 c q ((x.1, x.2.1, x.2.2.1, x.2.2.2.1, x.2.2.2.2.1, o3, x.2.2.2.2.2.2)) o4) 16 2 rfl rfl rfl d_EL_endTurn_37 ?_
    refine g_aload_n (pc := 40) hX d_EL_endTurn_40 rfl 0 rfl ?_
    refine gf_EL_10 (pc := 41) (v := .ref ((q 12))) hX 3 rfl rfl d_EL_endTurn_41 ?_
    refine gf_EL_97 (pc := 44) (v := .ref ((q 9))) hX 19 rfl rfl d_EL_endTurn_44 ?_
    obtain ⟨o5, e5, h⟩ := zbind h
    refine g_cvV (pc := 47)  (st := []) (w' := (zwX c q ((x.1, x.2.1, x.2.2.1, x.2.2.2.1, (o5, x.2.2.2.2.1.2.1, x.2.2.2.2.1.2.2.1, x.2.2.2.2.1.2.2.2), o3, x.2.2.2.2.2.2)))) hX zk_En_startTurn zs_En_startTurn zL_EL_117 (c_En_startTurn c q o4 e5) rfl rfl rfl rfl (sp_EL_En_7 c q ((x.1, x.2.1, x.2.2.1, x.2.2.2.1, (o4, x.2.2.2.2.1.2.1, x.2.2.2.2.1.2.2.1, x.2.2.2.2.1.2.2.2), o3, x.2.2.2.2.2.2))) (sq_EL_En_7 c q ((x.1, x.2.1, x.2.2.1, x.2.2.2.1, (o4, x.2.2.2.2.1.2.1, x.2.2.2.2.1.2.2.1, x.2.2.2.2.1.2.2.2), o3, x.2.2.2.2.2.2)) o5) 16 2 rfl rfl rfl d_EL_endTurn_47 ?_
    refine g_aload_n (pc := 50) hX d_EL_endTurn_50 rfl 0 rfl ?_
    refine gf_EL_10 (pc := 51) (v := .ref ((q 12))) hX 3 rfl rfl d_EL_endTurn_51 ?_
    refine gf_EL_97 (pc := 54) (v := .ref ((q 9))) hX 19 rfl rfl d_EL_endTurn_54 ?_
    obtain ⟨o6, e6, h⟩ := zbind h
    refine g_cvI (pc := 57)  (st := []) (w' := (zwX c q ((x.1, x.2.1, x.2.2.1, x.2.2.2.1, (o5, x.2.2.2.2.1.2.1, x.2.2.2.2.1.2.2.1, x.2.2.2.2.1.2.2.2), o3, x.2.2.2.2.2.2)))) hX zk_En_current zs_En_current zL_EL_120 (c_En_current c q o5 e6) rfl rfl rfl rfl (sp_EL_En_7 c q ((x.1, x.2.1, x.2.2.1, x.2.2.2.1, (o5, x.2.2.2.2.1.2.1, x.2.2.2.2.1.2.2.1, x.2.2.2.2.1.2.2.2), o3, x.2.2.2.2.2.2))) (sp_EL_En_7 c q ((x.1, x.2.1, x.2.2.1, x.2.2.2.1, (o5, x.2.2.2.2.1.2.1, x.2.2.2.2.1.2.2.1, x.2.2.2.2.1.2.2.2), o3, x.2.2.2.2.2.2))).symm 16 2 rfl rfl rfl d_EL_endTurn_57 ?_
    obtain rfl := Option.some.inj h
    exact g_iret (pc := 60) hX hR d_EL_endTurn_60
  · refine g_aload_n (pc := 13) hX d_EL_endTurn_13 rfl 0 rfl ?_
    refine g_iconst (pc := 14) hX d_EL_endTurn_14 zc_1 ?_
    obtain ⟨o7, e7, h⟩ := zbind h
    refine g_cvI (pc := 15) (w1 := []) (w2 := []) (st := []) (w' := (zwX c q o7.2)) hX zk_EL_refuse zs_EL_refuse zL_EL_55 (c_EL_refuse c q x ((1 : Int32)) e7) rfl rfl rfl rfl (zself _) (zself _).symm 3 9 rfl rfl rfl d_EL_endTurn_15 ?_
    obtain rfl := Option.some.inj h
    exact g_iret (pc := 18) hX hR d_EL_endTurn_18)
theorem d_EL_whyCannotAct_0 : decode zb_EL_whyCannotAct 0 = .ok (.aload_n 0, 1) := by decide +kernel
theorem d_EL_whyCannotAct_1 : decode zb_EL_whyCannotAct 1 = .ok (.getfield 10, 3) := by decide +kernel
theorem d_EL_whyCannotAct_4 : decode zb_EL_whyCannotAct 4 = .ok (.getfield 97, 3) := by decide +kernel
theorem d_EL_whyCannotAct_7 : decode zb_EL_whyCannotAct 7 = .ok (.invokevirtual 101, 3) := by decide +kernel
theorem d_EL_whyCannotAct_10 : decode zb_EL_whyCannotAct 10 = .ok (.ifCond .ne 5, 3) := by decide +kernel
theorem d_EL_whyCannotAct_13 : decode zb_EL_whyCannotAct 13 = .ok (.iconst 1, 1) := by decide +kernel
theorem d_EL_whyCannotAct_14 : decode zb_EL_whyCannotAct 14 = .ok (.ireturn, 1) := by decide +kernel
theorem d_EL_whyCannotAct_15 : decode zb_EL_whyCannotAct 15 = .ok (.aload_n 0, 1) := by decide +kernel
theorem d_EL_whyCannotAct_16 : decode zb_EL_whyCannotAct 16 = .ok (.getfield 10, 3) := by decide +kernel
theorem d_EL_whyCannotAct_19 : decode zb_EL_whyCannotAct 19 = .ok (.getfield 59, 3) := by decide +kernel
theorem d_EL_whyCannotAct_22 : decode zb_EL_whyCannotAct 22 = .ok (.aload_n 0, 1) := by decide +kernel
theorem d_EL_whyCannotAct_23 : decode zb_EL_whyCannotAct 23 = .ok (.getfield 10, 3) := by decide +kernel
theorem d_EL_whyCannotAct_26 : decode zb_EL_whyCannotAct 26 = .ok (.getfield 97, 3) := by decide +kernel
theorem d_EL_whyCannotAct_29 : decode zb_EL_whyCannotAct 29 = .ok (.invokevirtual 120, 3) := by decide +kernel
theorem d_EL_whyCannotAct_32 : decode zb_EL_whyCannotAct 32 = .ok (.invokevirtual 235, 3) := by decide +kernel
theorem d_EL_whyCannotAct_35 : decode zb_EL_whyCannotAct 35 = .ok (.ifCond .eq 7, 3) := by decide +kernel
theorem d_EL_whyCannotAct_38 : decode zb_EL_whyCannotAct 38 = .ok (.iconst 0, 1) := by decide +kernel
theorem d_EL_whyCannotAct_39 : decode zb_EL_whyCannotAct 39 = .ok (.goto 4, 3) := by decide +kernel
theorem d_EL_whyCannotAct_42 : decode zb_EL_whyCannotAct 42 = .ok (.iconst 3, 1) := by decide +kernel
theorem d_EL_whyCannotAct_43 : decode zb_EL_whyCannotAct 43 = .ok (.ireturn, 1) := by decide +kernel
def k_EL_whyCannotAct (x : zsX) : Option (Int32) := (k_En_isOn x.2.2.2.2.1.1).bind fun o1 => (if o1 = 0 then some ((1 : Int32)) else (k_En_current x.2.2.2.2.1.1).bind fun o3 => (k_Fi_canAct x.2.2.2.2.1.1.1 o3).bind fun o4 => (if o4 = 0 then some ((3 : Int32)) else some ((0 : Int32))))
set_option maxRecDepth 20000 in
theorem c_EL_whyCannotAct (c : zY) (q : Nat → Nat) (x : zsX) {out : Int32} (h : k_EL_whyCannotAct x = some out) : KM zy_EL_whyCannotAct zb_EL_whyCannotAct 1 (some .int) 3 c [.ref ((q 17))] (zwX c q x) (zwX c q x) (some (.int out)) := zK_of zp_EL rfl (Nat.le_of_ble_eq_true rfl) (zq_EL c q _ _) (fun X hX hR => by
  show Go X (zwX c q x) [(0, .ref ((q 17)))] 0 []
  rw [k_EL_whyCannotAct] at h
  refine g_aload_n (pc := 0) hX d_EL_whyCannotAct_0 rfl 0 rfl ?_
  refine gf_EL_10 (pc := 1) (v := .ref ((q 12))) hX 3 rfl rfl d_EL_whyCannotAct_1 ?_
  refine gf_EL_97 (pc := 4) (v := .ref ((q 9))) hX 19 rfl rfl d_EL_whyCannotAct_4 ?_
  obtain ⟨o1, e1, h⟩ := zbind h
  refine g_cvI (pc := 7)  (st := []) (w' := (zwX c q x)) hX zk_En_isOn zs_En_isOn zL_EL_101 (c_En_isOn c q x.2.2.2.2.1.1 e1) rfl rfl rfl rfl (sp_EL_En_7 c q x) (sp_EL_En_7 c q x).symm 16 2 rfl rfl rfl d_EL_whyCannotAct_7 ?_
  refine g_if_ne (pc := 10) (tgt := 15) hX d_EL_whyCannotAct_10 (by decide) h (fun c2 h => ?_) (fun c2 h => ?_)
  · refine g_aload_n (pc := 15) hX d_EL_whyCannotAct_15 rfl 0 rfl ?_
    refine gf_EL_10 (pc := 16) (v := .ref ((q 12))) hX 3 rfl rfl d_EL_whyCannotAct_16 ?_
    refine gf_EL_59 (pc := 19) (v := .ref ((q 6))) hX 19 rfl rfl d_EL_whyCannotAct_19 ?_
    refine g_aload_n (pc := 22) hX d_EL_whyCannotAct_22 rfl 0 rfl ?_
    refine gf_EL_10 (pc := 23) (v := .ref ((q 12))) hX 3 rfl rfl d_EL_whyCannotAct_23 ?_
    refine gf_EL_97 (pc := 26) (v := .ref ((q 9))) hX 19 rfl rfl d_EL_whyCannotAct_26 ?_
    obtain ⟨o3, e3, h⟩ := zbind h
    refine g_cvI (pc := 29)  (st := [.ref ((q 6))]) (w' := (zwX c q x)) hX zk_En_current zs_En_current zL_EL_120 (c_En_current c q x.2.2.2.2.1.1 e3) rfl rfl rfl rfl (sp_EL_En_7 c q x) (sp_EL_En_7 c q x).symm 16 2 rfl rfl rfl d_EL_whyCannotAct_29 ?_
    obtain ⟨o4, e4, h⟩ := zbind h
    refine g_cvI (pc := 32)  (st := []) (w' := (zwX c q x)) hX zk_Fi_canAct zs_Fi_canAct zL_EL_235 (c_Fi_canAct c q x.2.2.2.2.1.1.1 o3 e4) rfl rfl rfl rfl (sp_EL_Fi_7 c q x) (sp_EL_Fi_7 c q x).symm 13 3 rfl rfl rfl d_EL_whyCannotAct_32 ?_
    refine g_if_eq (pc := 35) (tgt := 42) hX d_EL_whyCannotAct_35 (by decide) h (fun c5 h => ?_) (fun c5 h => ?_)
    · refine g_iconst (pc := 42) hX d_EL_whyCannotAct_42 zc_3 ?_
      obtain rfl := Option.some.inj h
      exact g_iret (pc := 43) hX hR d_EL_whyCannotAct_43
    · refine g_iconst (pc := 38) hX d_EL_whyCannotAct_38 zc_0 ?_
      refine g_goto (pc := 39) (tgt := 43) hX d_EL_whyCannotAct_39 (by decide) ?_
      obtain rfl := Option.some.inj h
      exact g_iret (pc := 43) hX hR d_EL_whyCannotAct_43
  · refine g_iconst (pc := 13) hX d_EL_whyCannotAct_13 zc_1 ?_
    obtain rfl := Option.some.inj h
    exact g_iret (pc := 14) hX hR d_EL_whyCannotAct_14)
theorem d_EL_whyNoAct_0 : decode zb_EL_whyNoAct 0 = .ok (.aload_n 0, 1) := by decide +kernel
theorem d_EL_whyNoAct_1 : decode zb_EL_whyNoAct 1 = .ok (.invokevirtual 141, 3) := by decide +kernel
theorem d_EL_whyNoAct_4 : decode zb_EL_whyNoAct 4 = .ok (.istore_n 1, 1) := by decide +kernel
theorem d_EL_whyNoAct_5 : decode zb_EL_whyNoAct 5 = .ok (.iload_n 1, 1) := by decide +kernel
theorem d_EL_whyNoAct_6 : decode zb_EL_whyNoAct 6 = .ok (.ifCond .ne 20, 3) := by decide +kernel
theorem d_EL_whyNoAct_9 : decode zb_EL_whyNoAct 9 = .ok (.aload_n 0, 1) := by decide +kernel
theorem d_EL_whyNoAct_10 : decode zb_EL_whyNoAct 10 = .ok (.getfield 10, 3) := by decide +kernel
theorem d_EL_whyNoAct_13 : decode zb_EL_whyNoAct 13 = .ok (.getfield 97, 3) := by decide +kernel
theorem d_EL_whyNoAct_16 : decode zb_EL_whyNoAct 16 = .ok (.getfield 244, 3) := by decide +kernel
theorem d_EL_whyNoAct_19 : decode zb_EL_whyNoAct 19 = .ok (.ifCond .eq 7, 3) := by decide +kernel
theorem d_EL_whyNoAct_22 : decode zb_EL_whyNoAct 22 = .ok (.iconst 4, 1) := by decide +kernel
theorem d_EL_whyNoAct_23 : decode zb_EL_whyNoAct 23 = .ok (.goto 4, 3) := by decide +kernel
theorem d_EL_whyNoAct_26 : decode zb_EL_whyNoAct 26 = .ok (.iload_n 1, 1) := by decide +kernel
theorem d_EL_whyNoAct_27 : decode zb_EL_whyNoAct 27 = .ok (.ireturn, 1) := by decide +kernel
def k_EL_whyNoAct (x : zsX) : Option (Int32) := (k_EL_whyCannotAct x).bind fun o1 => (if o1 = 0 then (if (x.2.2.2.2.1.1.2.2 7) = 0 then some o1 else some ((4 : Int32))) else some o1)
set_option maxRecDepth 20000 in
theorem c_EL_whyNoAct (c : zY) (q : Nat → Nat) (x : zsX) {out : Int32} (h : k_EL_whyNoAct x = some out) : KM zy_EL_whyNoAct zb_EL_whyNoAct 2 (some .int) 4 c [.ref ((q 17))] (zwX c q x) (zwX c q x) (some (.int out)) := zK_of zp_EL rfl (Nat.le_of_ble_eq_true rfl) (zq_EL c q _ _) (fun X hX hR => by
  show Go X (zwX c q x) [(0, .ref ((q 17)))] 0 []
  rw [k_EL_whyNoAct] at h
  refine g_aload_n (pc := 0) hX d_EL_whyNoAct_0 rfl 0 rfl ?_
  obtain ⟨o1, e1, h⟩ := zbind h
  refine g_cvI (pc := 1) (w1 := []) (w2 := []) (st := []) (w' := (zwX c q x)) hX zk_EL_whyCannotAct zs_EL_whyCannotAct zL_EL_141 (c_EL_whyCannotAct c q x e1) rfl rfl rfl rfl (zself _) (zself _).symm 3 9 rfl rfl rfl d_EL_whyNoAct_1 ?_
  refine g_istore_n (pc := 4) (L' := [(1, .int o1), (0, .ref ((q 17)))]) hX d_EL_whyNoAct_4 rfl rfl rfl ?_
  refine g_iload_n (pc := 5) hX d_EL_whyNoAct_5 rfl 0 rfl ?_
  refine g_if_ne (pc := 6) (tgt := 26) hX d_EL_whyNoAct_6 (by decide) h (fun c2 h => ?_) (fun c2 h => ?_)
  · refine g_iload_n (pc := 26) hX d_EL_whyNoAct_26 rfl 0 rfl ?_
    obtain rfl := Option.some.inj h
    exact g_iret (pc := 27) hX hR d_EL_whyNoAct_27
  · refine g_aload_n (pc := 9) hX d_EL_whyNoAct_9 rfl 1 rfl ?_
    refine gf_EL_10 (pc := 10) (v := .ref ((q 12))) hX 3 rfl rfl d_EL_whyNoAct_10 ?_
    refine gf_EL_97 (pc := 13) (v := .ref ((q 9))) hX 19 rfl rfl d_EL_whyNoAct_13 ?_
    refine gf_EL_244 (pc := 16) (v := .int ((x.2.2.2.2.1.1.2.2 7))) hX 16 rfl rfl d_EL_whyNoAct_16 ?_
    refine g_if_eq (pc := 19) (tgt := 26) hX d_EL_whyNoAct_19 (by decide) h (fun c3 h => ?_) (fun c3 h => ?_)
    · refine g_iload_n (pc := 26) hX d_EL_whyNoAct_26 rfl 0 rfl ?_
      obtain rfl := Option.some.inj h
      exact g_iret (pc := 27) hX hR d_EL_whyNoAct_27
    · refine g_iconst (pc := 22) hX d_EL_whyNoAct_22 zc_4 ?_
      refine g_goto (pc := 23) (tgt := 27) hX d_EL_whyNoAct_23 (by decide) ?_
      obtain rfl := Option.some.inj h
      exact g_iret (pc := 27) hX hR d_EL_whyNoAct_27)
theorem d_EL_delay_0 : decode zb_EL_delay 0 = .ok (.aload_n 0, 1) := by decide +kernel
theorem d_EL_delay_1 : decode zb_EL_delay 1 = .ok (.getfield 10, 3) := by decide +kernel
theorem d_EL_delay_4 : decode zb_EL_delay 4 = .ok (.getfield 59, 3) := by decide +kernel
theorem d_EL_delay_7 : decode zb_EL_delay 7 = .ok (.iload_n 1, 1) := by decide +kernel
theorem d_EL_delay_8 : decode zb_EL_delay 8 = .ok (.invokevirtual 94, 3) := by decide +kernel
theorem d_EL_delay_11 : decode zb_EL_delay 11 = .ok (.ifCond .ne 5, 3) := by decide +kernel
theorem d_EL_delay_14 : decode zb_EL_delay 14 = .ok (.iconst (-1), 1) := by decide +kernel
theorem d_EL_delay_15 : decode zb_EL_delay 15 = .ok (.ireturn, 1) := by decide +kernel
theorem d_EL_delay_16 : decode zb_EL_delay 16 = .ok (.aload_n 0, 1) := by decide +kernel
theorem d_EL_delay_17 : decode zb_EL_delay 17 = .ok (.invokevirtual 132, 3) := by decide +kernel
theorem d_EL_delay_20 : decode zb_EL_delay 20 = .ok (.istore_n 2, 1) := by decide +kernel
theorem d_EL_delay_21 : decode zb_EL_delay 21 = .ok (.iload_n 2, 1) := by decide +kernel
theorem d_EL_delay_22 : decode zb_EL_delay 22 = .ok (.ifCond .ne 20, 3) := by decide +kernel
theorem d_EL_delay_25 : decode zb_EL_delay 25 = .ok (.aload_n 0, 1) := by decide +kernel
theorem d_EL_delay_26 : decode zb_EL_delay 26 = .ok (.getfield 10, 3) := by decide +kernel
theorem d_EL_delay_29 : decode zb_EL_delay 29 = .ok (.getfield 97, 3) := by decide +kernel
theorem d_EL_delay_32 : decode zb_EL_delay 32 = .ok (.iload_n 1, 1) := by decide +kernel
theorem d_EL_delay_33 : decode zb_EL_delay 33 = .ok (.invokevirtual 135, 3) := by decide +kernel
theorem d_EL_delay_36 : decode zb_EL_delay 36 = .ok (.ifCond .ne 6, 3) := by decide +kernel
theorem d_EL_delay_39 : decode zb_EL_delay 39 = .ok (.bipush 11, 2) := by decide +kernel
theorem d_EL_delay_41 : decode zb_EL_delay 41 = .ok (.istore_n 2, 1) := by decide +kernel
theorem d_EL_delay_42 : decode zb_EL_delay 42 = .ok (.iload_n 2, 1) := by decide +kernel
theorem d_EL_delay_43 : decode zb_EL_delay 43 = .ok (.ifCond .eq 9, 3) := by decide +kernel
theorem d_EL_delay_46 : decode zb_EL_delay 46 = .ok (.aload_n 0, 1) := by decide +kernel
theorem d_EL_delay_47 : decode zb_EL_delay 47 = .ok (.iload_n 2, 1) := by decide +kernel
theorem d_EL_delay_48 : decode zb_EL_delay 48 = .ok (.invokevirtual 55, 3) := by decide +kernel
theorem d_EL_delay_51 : decode zb_EL_delay 51 = .ok (.ireturn, 1) := by decide +kernel
theorem d_EL_delay_52 : decode zb_EL_delay 52 = .ok (.aload_n 0, 1) := by decide +kernel
theorem d_EL_delay_53 : decode zb_EL_delay 53 = .ok (.getfield 22, 3) := by decide +kernel
theorem d_EL_delay_56 : decode zb_EL_delay 56 = .ok (.aload_n 0, 1) := by decide +kernel
theorem d_EL_delay_57 : decode zb_EL_delay 57 = .ok (.getfield 10, 3) := by decide +kernel
theorem d_EL_delay_60 : decode zb_EL_delay 60 = .ok (.invokevirtual 69, 3) := by decide +kernel
theorem d_EL_delay_63 : decode zb_EL_delay 63 = .ok (.aload_n 0, 1) := by decide +kernel
theorem d_EL_delay_64 : decode zb_EL_delay 64 = .ok (.getfield 10, 3) := by decide +kernel
theorem d_EL_delay_67 : decode zb_EL_delay 67 = .ok (.getfield 97, 3) := by decide +kernel
theorem d_EL_delay_70 : decode zb_EL_delay 70 = .ok (.iload_n 1, 1) := by decide +kernel
theorem d_EL_delay_71 : decode zb_EL_delay 71 = .ok (.invokevirtual 138, 3) := by decide +kernel
theorem d_EL_delay_74 : decode zb_EL_delay 74 = .ok (.aload_n 0, 1) := by decide +kernel
theorem d_EL_delay_75 : decode zb_EL_delay 75 = .ok (.getfield 10, 3) := by decide +kernel
theorem d_EL_delay_78 : decode zb_EL_delay 78 = .ok (.getfield 97, 3) := by decide +kernel
theorem d_EL_delay_81 : decode zb_EL_delay 81 = .ok (.invokevirtual 117, 3) := by decide +kernel
theorem d_EL_delay_84 : decode zb_EL_delay 84 = .ok (.aload_n 0, 1) := by decide +kernel
theorem d_EL_delay_85 : decode zb_EL_delay 85 = .ok (.getfield 10, 3) := by decide +kernel
theorem d_EL_delay_88 : decode zb_EL_delay 88 = .ok (.getfield 97, 3) := by decide +kernel
theorem d_EL_delay_91 : decode zb_EL_delay 91 = .ok (.invokevirtual 120, 3) := by decide +kernel
theorem d_EL_delay_94 : decode zb_EL_delay 94 = .ok (.ireturn, 1) := by decide +kernel
def k_EL_delay_42 (l1 : Int32) (l2 : Int32) (x : zsX) : Option (Int32 × zsX) := (if l2 = 0 then (k_Ch_keep x.2.2.2.2.1 x.2.2.2.2.2.1).bind fun o6 => (k_En_putBehind x.2.2.2.2.1.1 l1).bind fun o7 => (k_En_startTurn o7).bind fun o8 => (k_En_current o8).bind fun o9 => some (o9, (x.1, x.2.1, x.2.2.1, x.2.2.2.1, (o8, x.2.2.2.2.1.2.1, x.2.2.2.2.1.2.2.1, x.2.2.2.2.1.2.2.2), o6, x.2.2.2.2.2.2)) else (k_EL_refuse x l2).bind fun o10 => some (o10.1, o10.2))
set_option maxRecDepth 20000 in
theorem w_EL_delay_42 {X : zX} {c : zY} {q : Nat → Nat} {l1 : Int32} {out : Int32 × zsX} (hX : Ok X zr_EL zb_EL_delay 3 7 c) (hR : Rt X (some .int) (some (.int out.1)) (zwX c q out.2)) : ∀ (l2 : Int32) (x : zsX), k_EL_delay_42 l1 l2 x = some out → Go X (zwX c q x) [(0, .ref ((q 17))), (1, .int l1), (2, .int l2)] 42 [] := by
  intro l2 x h
  rw [k_EL_delay_42] at h
  refine g_iload_n (pc := 42) hX d_EL_delay_42 rfl 2 rfl ?_
  refine g_if_eq (pc := 43) (tgt := 52) hX d_EL_delay_43 (by decide) h (fun c5 h => ?_) (fun c5 h => ?_)
  · refine g_aload_n (pc := 52) hX d_EL_delay_52 rfl 0 rfl ?_
    refine gf_EL_22 (pc := 53) (v := .ref ((q 24))) hX 3 rfl rfl d_EL_delay_53 ?_
    refine g_aload_n (pc := 56) hX d_EL_delay_56 rfl 0 rfl ?_
    refine gf_EL_10 (pc := 57) (v := .ref ((q 12))) hX 3 rfl rfl d_EL_delay_57 ?_
    obtain ⟨o6, e6, h⟩ := zbind h
    refine g_cvV (pc := 60) (st := []) (w' := (zwX c q ((x.1, x.2.1, x.2.2.1, x.2.2.2.1, x.2.2.2.2.1, o6, x.2.2.2.2.2.2)))) hX zk_Ch_keep zs_Ch_keep zL_EL_69 (c_Ch_keep c q x.2.2.2.2.1 x.2.2.2.2.2.1 e6) rfl rfl rfl rfl (sp_KN c q x) (sq_KN c q x o6) 24 0 rfl rfl rfl d_EL_delay_60 ?_
    refine g_aload_n (pc := 63) hX d_EL_delay_63 rfl 0 rfl ?_
    refine gf_EL_10 (pc := 64) (v := .ref ((q 12))) hX 3 rfl rfl d_EL_delay_64 ?_
    refine gf_EL_97 (pc := 67) (v := .ref ((q 9))) hX 19 rfl rfl d_EL_delay_67 ?_
    refine g_iload_n (pc := 70) hX d_EL_delay_70 rfl 1 rfl ?_
    obtain ⟨o7, e7, h⟩ := zbind h
    refine g_cvV (pc := 71)  (st := []) (w' := (zwX c q ((x.1, x.2.1, x.2.2.1, x.2.2.2.1, (o7, x.2.2.2.2.1.2.1, x.2.2.2.2.1.2.2.1, x.2.2.2.2.1.2.2.2), o6, x.2.2.2.2.2.2)))) hX zk_En_putBehind zs_En_putBehind zL_EL_138 (c_En_putBehind c q x.2.2.2.2.1.1 l1 e7) rfl rfl rfl rfl (sp_EL_En_7 c q ((x.1, x.2.1, x.2.2.1, x.2.2.2.1, x.2.2.2.2.1, o6, x.2.2.2.2.2.2))) (sq_EL_En_7 c q ((x.1, x.2.1, x.2.2.1, x.2.2.2.1, x.2.2.2.2.1, o6, x.2.2.2.2.2.2)) o7) 16 2 rfl rfl rfl d_EL_delay_71 ?_
    refine g_aload_n (pc := 74) hX d_EL_delay_74 rfl 0 rfl ?_
    refine gf_EL_10 (pc := 75) (v := .ref ((q 12))) hX 3 rfl rfl d_EL_delay_75 ?_
    refine gf_EL_97 (pc := 78) (v := .ref ((q 9))) hX 19 rfl rfl d_EL_delay_78 ?_
    obtain ⟨o8, e8, h⟩ := zbind h
    refine g_cvV (pc := 81)  (st := []) (w' := (zwX c q ((x.1, x.2.1, x.2.2.1, x.2.2.2.1, (o8, x.2.2.2.2.1.2.1, x.2.2.2.2.1.2.2.1, x.2.2.2.2.1.2.2.2), o6, x.2.2.2.2.2.2)))) hX zk_En_startTurn zs_En_startTurn zL_EL_117 (c_En_startTurn c q o7 e8) rfl rfl rfl rfl (sp_EL_En_7 c q ((x.1, x.2.1, x.2.2.1, x.2.2.2.1, (o7, x.2.2.2.2.1.2.1, x.2.2.2.2.1.2.2.1, x.2.2.2.2.1.2.2.2), o6, x.2.2.2.2.2.2))) (sq_EL_En_7 c q ((x.1, x.2.1, x.2.2.1, x.2.2.2.1, (o7, x.2.2.2.2.1.2.1, x.2.2.2.2.1.2.2.1, x.2.2.2.2.1.2.2.2), o6, x.2.2.2.2.2.2)) o8) 16 2 rfl rfl rfl d_EL_delay_81 ?_
    refine g_aload_n (pc := 84) hX d_EL_delay_84 rfl 0 rfl ?_
    refine gf_EL_10 (pc := 85) (v := .ref ((q 12))) hX 3 rfl rfl d_EL_delay_85 ?_
    refine gf_EL_97 (pc := 88) (v := .ref ((q 9))) hX 19 rfl rfl d_EL_delay_88 ?_
    obtain ⟨o9, e9, h⟩ := zbind h
    refine g_cvI (pc := 91)  (st := []) (w' := (zwX c q ((x.1, x.2.1, x.2.2.1, x.2.2.2.1, (o8, x.2.2.2.2.1.2.1, x.2.2.2.2.1.2.2.1, x.2.2.2.2.1.2.2.2), o6, x.2.2.2.2.2.2)))) hX zk_En_current zs_En_current zL_EL_120 (c_En_current c q o8 e9) rfl rfl rfl rfl (sp_EL_En_7 c q ((x.1, x.2.1, x.2.2.1, x.2.2.2.1, (o8, x.2.2.2.2.1.2.1, x.2.2.2.2.1.2.2.1, x.2.2.2.2.1.2.2.2), o6, x.2.2.2.2.2.2))) (sp_EL_En_7 c q ((x.1, x.2.1, x.2.2.1, x.2.2.2.1, (o8, x.2.2.2.2.1.2.1, x.2.2.2.2.1.2.2.1, x.2.2.2.2.1.2.2.2), o6, x.2.2.2.2.2.2))).symm 16 2 rfl rfl rfl d_EL_delay_91 ?_
    obtain rfl := Option.some.inj h
    exact g_iret (pc := 94) hX hR d_EL_delay_94
  · refine g_aload_n (pc := 46) hX d_EL_delay_46 rfl 0 rfl ?_
    refine g_iload_n (pc := 47) hX d_EL_delay_47 rfl 2 rfl ?_
    obtain ⟨o10, e10, h⟩ := zbind h
    refine g_cvI (pc := 48) (w1 := []) (w2 := []) (st := []) (w' := (zwX c q o10.2)) hX zk_EL_refuse zs_EL_refuse zL_EL_55 (c_EL_refuse c q x l2 e10) rfl rfl rfl rfl (zself _) (zself _).symm 3 9 rfl rfl rfl d_EL_delay_48 ?_
    obtain rfl := Option.some.inj h
    exact g_iret (pc := 51) hX hR d_EL_delay_51
def k_EL_delay (x : zsX) (l1 : Int32) : Option (Int32 × zsX) := (k_Fi_has x.2.2.2.2.1.1.1 l1).bind fun o1 => (if o1 = 0 then some ((-1 : Int32), x) else (k_EL_whyNoAct x).bind fun o3 => (if o3 = 0 then (k_En_comesLater x.2.2.2.2.1.1 l1).bind fun o11 => (if o11 = 0 then k_EL_delay_42 l1 ((11 : Int32)) x else k_EL_delay_42 l1 o3 x) else k_EL_delay_42 l1 o3 x))
set_option maxRecDepth 20000 in
theorem c_EL_delay (c : zY) (q : Nat → Nat) (x : zsX) (l1 : Int32) {out : Int32 × zsX} (h : k_EL_delay x l1 = some out) : KM zy_EL_delay zb_EL_delay 3 (some .int) 7 c [.ref ((q 17)), .int l1] (zwX c q x) (zwX c q out.2) (some (.int out.1)) := zK_of zp_EL rfl (Nat.le_of_ble_eq_true rfl) (zq_EL c q _ _) (fun X hX hR => by
  show Go X (zwX c q x) [(0, .ref ((q 17))), (1, .int l1)] 0 []
  rw [k_EL_delay] at h
  refine g_aload_n (pc := 0) hX d_EL_delay_0 rfl 0 rfl ?_
  refine gf_EL_10 (pc := 1) (v := .ref ((q 12))) hX 3 rfl rfl d_EL_delay_1 ?_
  refine gf_EL_59 (pc := 4) (v := .ref ((q 6))) hX 19 rfl rfl d_EL_delay_4 ?_
  refine g_iload_n (pc := 7) hX d_EL_delay_7 rfl 1 rfl ?_
  obtain ⟨o1, e1, h⟩ := zbind h
  refine g_cvI (pc := 8)  (st := []) (w' := (zwX c q x)) hX zk_Fi_has zs_Fi_has zL_EL_94 (c_Fi_has c q x.2.2.2.2.1.1.1 l1 e1) rfl rfl rfl rfl (sp_EL_Fi_7 c q x) (sp_EL_Fi_7 c q x).symm 13 3 rfl rfl rfl d_EL_delay_8 ?_
  refine g_if_ne (pc := 11) (tgt := 16) hX d_EL_delay_11 (by decide) h (fun c2 h => ?_) (fun c2 h => ?_)
  · refine g_aload_n (pc := 16) hX d_EL_delay_16 rfl 0 rfl ?_
    obtain ⟨o3, e3, h⟩ := zbind h
    refine g_cvI (pc := 17) (w1 := []) (w2 := []) (st := []) (w' := (zwX c q x)) hX zk_EL_whyNoAct zs_EL_whyNoAct zL_EL_132 (c_EL_whyNoAct c q x e3) rfl rfl rfl rfl (zself _) (zself _).symm 3 9 rfl rfl rfl d_EL_delay_17 ?_
    refine g_istore_n (pc := 20) (L' := [(2, .int o3), (0, .ref ((q 17))), (1, .int l1)]) hX d_EL_delay_20 rfl rfl rfl ?_
    refine g_iload_n (pc := 21) hX d_EL_delay_21 rfl 0 rfl ?_
    refine g_if_ne (pc := 22) (tgt := 42) hX d_EL_delay_22 (by decide) h (fun c4 h => ?_) (fun c4 h => ?_)
    · refine g_ls (L' := [(0, .ref ((q 17))), (1, .int l1), (2, .int o3)]) [1, 2, 0] rfl ?_
      exact w_EL_delay_42 hX hR _ _ h
    · refine g_aload_n (pc := 25) hX d_EL_delay_25 rfl 1 rfl ?_
      refine gf_EL_10 (pc := 26) (v := .ref ((q 12))) hX 3 rfl rfl d_EL_delay_26 ?_
      refine gf_EL_97 (pc := 29) (v := .ref ((q 9))) hX 19 rfl rfl d_EL_delay_29 ?_
      refine g_iload_n (pc := 32) hX d_EL_delay_32 rfl 2 rfl ?_
      obtain ⟨o11, e11, h⟩ := zbind h
      refine g_cvI (pc := 33)  (st := []) (w' := (zwX c q x)) hX zk_En_comesLater zs_En_comesLater zL_EL_135 (c_En_comesLater c q x.2.2.2.2.1.1 l1 e11) rfl rfl rfl rfl (sp_EL_En_7 c q x) (sp_EL_En_7 c q x).symm 16 2 rfl rfl rfl d_EL_delay_33 ?_
      refine g_if_ne (pc := 36) (tgt := 42) hX d_EL_delay_36 (by decide) h (fun c12 h => ?_) (fun c12 h => ?_)
      · refine g_ls (L' := [(0, .ref ((q 17))), (1, .int l1), (2, .int o3)]) [1, 2, 0] rfl ?_
        exact w_EL_delay_42 hX hR _ _ h
      · refine g_bipush (pc := 39) hX d_EL_delay_39 ze_11 ?_
        refine g_istore_n (pc := 41) (L' := [(2, .int ((11 : Int32))), (0, .ref ((q 17))), (1, .int l1)]) hX d_EL_delay_41 rfl rfl rfl ?_
        refine g_ls (L' := [(0, .ref ((q 17))), (1, .int l1), (2, .int ((11 : Int32)))]) [1, 2, 0] rfl ?_
        exact w_EL_delay_42 hX hR _ _ h
  · refine g_iconst (pc := 14) hX d_EL_delay_14 zc_m1 ?_
    obtain rfl := Option.some.inj h
    exact g_iret (pc := 15) hX hR d_EL_delay_15)
theorem d_EL_stepsLeft_0 : decode zb_EL_stepsLeft 0 = .ok (.aload_n 0, 1) := by decide +kernel
theorem d_EL_stepsLeft_1 : decode zb_EL_stepsLeft 1 = .ok (.getfield 10, 3) := by decide +kernel
theorem d_EL_stepsLeft_4 : decode zb_EL_stepsLeft 4 = .ok (.getfield 97, 3) := by decide +kernel
theorem d_EL_stepsLeft_7 : decode zb_EL_stepsLeft 7 = .ok (.invokevirtual 120, 3) := by decide +kernel
theorem d_EL_stepsLeft_10 : decode zb_EL_stepsLeft 10 = .ok (.istore_n 1, 1) := by decide +kernel
theorem d_EL_stepsLeft_11 : decode zb_EL_stepsLeft 11 = .ok (.aload_n 0, 1) := by decide +kernel
theorem d_EL_stepsLeft_12 : decode zb_EL_stepsLeft 12 = .ok (.getfield 10, 3) := by decide +kernel
theorem d_EL_stepsLeft_15 : decode zb_EL_stepsLeft 15 = .ok (.getfield 59, 3) := by decide +kernel
theorem d_EL_stepsLeft_18 : decode zb_EL_stepsLeft 18 = .ok (.iload_n 1, 1) := by decide +kernel
theorem d_EL_stepsLeft_19 : decode zb_EL_stepsLeft 19 = .ok (.iconst 5, 1) := by decide +kernel
theorem d_EL_stepsLeft_20 : decode zb_EL_stepsLeft 20 = .ok (.invokevirtual 107, 3) := by decide +kernel
theorem d_EL_stepsLeft_23 : decode zb_EL_stepsLeft 23 = .ok (.istore_n 2, 1) := by decide +kernel
theorem d_EL_stepsLeft_24 : decode zb_EL_stepsLeft 24 = .ok (.aload_n 0, 1) := by decide +kernel
theorem d_EL_stepsLeft_25 : decode zb_EL_stepsLeft 25 = .ok (.getfield 10, 3) := by decide +kernel
theorem d_EL_stepsLeft_28 : decode zb_EL_stepsLeft 28 = .ok (.getfield 223, 3) := by decide +kernel
theorem d_EL_stepsLeft_31 : decode zb_EL_stepsLeft 31 = .ok (.iload_n 1, 1) := by decide +kernel
theorem d_EL_stepsLeft_32 : decode zb_EL_stepsLeft 32 = .ok (.iconst 3, 1) := by decide +kernel
theorem d_EL_stepsLeft_33 : decode zb_EL_stepsLeft 33 = .ok (.invokevirtual 232, 3) := by decide +kernel
theorem d_EL_stepsLeft_36 : decode zb_EL_stepsLeft 36 = .ok (.ifCond .le 9, 3) := by decide +kernel
theorem d_EL_stepsLeft_39 : decode zb_EL_stepsLeft 39 = .ok (.iconst 2, 1) := by decide +kernel
theorem d_EL_stepsLeft_40 : decode zb_EL_stepsLeft 40 = .ok (.iload_n 2, 1) := by decide +kernel
theorem d_EL_stepsLeft_41 : decode zb_EL_stepsLeft 41 = .ok (.imul, 1) := by decide +kernel
theorem d_EL_stepsLeft_42 : decode zb_EL_stepsLeft 42 = .ok (.goto 4, 3) := by decide +kernel
theorem d_EL_stepsLeft_45 : decode zb_EL_stepsLeft 45 = .ok (.iload_n 2, 1) := by decide +kernel
theorem d_EL_stepsLeft_46 : decode zb_EL_stepsLeft 46 = .ok (.istore_n 3, 1) := by decide +kernel
theorem d_EL_stepsLeft_47 : decode zb_EL_stepsLeft 47 = .ok (.iconst 0, 1) := by decide +kernel
theorem d_EL_stepsLeft_48 : decode zb_EL_stepsLeft 48 = .ok (.iload_n 3, 1) := by decide +kernel
theorem d_EL_stepsLeft_49 : decode zb_EL_stepsLeft 49 = .ok (.aload_n 0, 1) := by decide +kernel
theorem d_EL_stepsLeft_50 : decode zb_EL_stepsLeft 50 = .ok (.getfield 10, 3) := by decide +kernel
theorem d_EL_stepsLeft_53 : decode zb_EL_stepsLeft 53 = .ok (.getfield 97, 3) := by decide +kernel
theorem d_EL_stepsLeft_56 : decode zb_EL_stepsLeft 56 = .ok (.getfield 151, 3) := by decide +kernel
theorem d_EL_stepsLeft_59 : decode zb_EL_stepsLeft 59 = .ok (.isub, 1) := by decide +kernel
theorem d_EL_stepsLeft_60 : decode zb_EL_stepsLeft 60 = .ok (.invokestatic 329, 3) := by decide +kernel
theorem d_EL_stepsLeft_63 : decode zb_EL_stepsLeft 63 = .ok (.ireturn, 1) := by decide +kernel
def k_EL_stepsLeft_46 (x : zsX) (s0 : Int32) : Option (Int32) := some ((zmax ((0 : Int32)) ((s0 - (x.2.2.2.2.1.1.2.2 6)))))
set_option maxRecDepth 20000 in
theorem w_EL_stepsLeft_46 {X : zX} {c : zY} {q : Nat → Nat} {x : zsX} {out : Int32} (hX : Ok X zr_EL zb_EL_stepsLeft 4 2 c) (hR : Rt X (some .int) (some (.int out)) (zwX c q x)) : ∀ (s0 : Int32), k_EL_stepsLeft_46 x s0 = some out → Go X (zwX c q x) [(0, .ref ((q 17)))] 46 [.int s0] := by
  intro s0 h
  rw [k_EL_stepsLeft_46] at h
  refine g_istore_n (pc := 46) (L' := [(3, .int s0), (0, .ref ((q 17)))]) hX d_EL_stepsLeft_46 rfl rfl rfl ?_
  refine g_iconst (pc := 47) hX d_EL_stepsLeft_47 zc_0 ?_
  refine g_iload_n (pc := 48) hX d_EL_stepsLeft_48 rfl 0 rfl ?_
  refine g_aload_n (pc := 49) hX d_EL_stepsLeft_49 rfl 1 rfl ?_
  refine gf_EL_10 (pc := 50) (v := .ref ((q 12))) hX 3 rfl rfl d_EL_stepsLeft_50 ?_
  refine gf_EL_97 (pc := 53) (v := .ref ((q 9))) hX 19 rfl rfl d_EL_stepsLeft_53 ?_
  refine gf_EL_151 (pc := 56) (v := .int ((x.2.2.2.2.1.1.2.2 6))) hX 16 rfl rfl d_EL_stepsLeft_56 ?_
  refine g_isub (pc := 59) hX d_EL_stepsLeft_59 ?_
  refine g_mmax (pc := 60) hX zL_EL_329 rfl rfl d_EL_stepsLeft_60 ?_
  obtain rfl := Option.some.inj h
  exact g_iret (pc := 63) hX hR d_EL_stepsLeft_63
def k_EL_stepsLeft (x : zsX) : Option (Int32) := (k_En_current x.2.2.2.2.1.1).bind fun o1 => (k_Fi_at x.2.2.2.2.1.1.1 o1 ((5 : Int32))).bind fun o2 => (k_Co_sumOf x.2.2.2.2.1.1.1.1 o1 ((3 : Int32))).bind fun o3 => (if 0 < o3 then k_EL_stepsLeft_46 x (((2 : Int32) * o2)) else k_EL_stepsLeft_46 x o2)
set_option maxRecDepth 20000 in
theorem c_EL_stepsLeft (c : zY) (q : Nat → Nat) (x : zsX) {out : Int32} (h : k_EL_stepsLeft x = some out) : KM zy_EL_stepsLeft zb_EL_stepsLeft 4 (some .int) 2 c [.ref ((q 17))] (zwX c q x) (zwX c q x) (some (.int out)) := zK_of zp_EL rfl (Nat.le_of_ble_eq_true rfl) (zq_EL c q _ _) (fun X hX hR => by
  show Go X (zwX c q x) [(0, .ref ((q 17)))] 0 []
  rw [k_EL_stepsLeft] at h
  refine g_aload_n (pc := 0) hX d_EL_stepsLeft_0 rfl 0 rfl ?_
  refine gf_EL_10 (pc := 1) (v := .ref ((q 12))) hX 3 rfl rfl d_EL_stepsLeft_1 ?_
  refine gf_EL_97 (pc := 4) (v := .ref ((q 9))) hX 19 rfl rfl d_EL_stepsLeft_4 ?_
  obtain ⟨o1, e1, h⟩ := zbind h
  refine g_cvI (pc := 7)  (st := []) (w' := (zwX c q x)) hX zk_En_current zs_En_current zL_EL_120 (c_En_current c q x.2.2.2.2.1.1 e1) rfl rfl rfl rfl (sp_EL_En_7 c q x) (sp_EL_En_7 c q x).symm 16 2 rfl rfl rfl d_EL_stepsLeft_7 ?_
  refine g_istore_n (pc := 10) (L' := [(1, .int o1), (0, .ref ((q 17)))]) hX d_EL_stepsLeft_10 rfl rfl rfl ?_
  refine g_aload_n (pc := 11) hX d_EL_stepsLeft_11 rfl 1 rfl ?_
  refine gf_EL_10 (pc := 12) (v := .ref ((q 12))) hX 3 rfl rfl d_EL_stepsLeft_12 ?_
  refine gf_EL_59 (pc := 15) (v := .ref ((q 6))) hX 19 rfl rfl d_EL_stepsLeft_15 ?_
  refine g_iload_n (pc := 18) hX d_EL_stepsLeft_18 rfl 0 rfl ?_
  refine g_iconst (pc := 19) hX d_EL_stepsLeft_19 zc_5 ?_
  obtain ⟨o2, e2, h⟩ := zbind h
  refine g_cvI (pc := 20)  (st := []) (w' := (zwX c q x)) hX zk_Fi_at zs_Fi_at zL_EL_107 (c_Fi_at c q x.2.2.2.2.1.1.1 o1 ((5 : Int32)) e2) rfl rfl rfl rfl (sp_EL_Fi_7 c q x) (sp_EL_Fi_7 c q x).symm 13 3 rfl rfl rfl d_EL_stepsLeft_20 ?_
  refine g_istore_n (pc := 23) (L' := [(2, .int o2), (1, .int o1), (0, .ref ((q 17)))]) hX d_EL_stepsLeft_23 rfl rfl rfl ?_
  refine g_aload_n (pc := 24) hX d_EL_stepsLeft_24 rfl 2 rfl ?_
  refine gf_EL_10 (pc := 25) (v := .ref ((q 12))) hX 3 rfl rfl d_EL_stepsLeft_25 ?_
  refine gf_EL_223 (pc := 28) (v := .ref ((q 2))) hX 19 rfl rfl d_EL_stepsLeft_28 ?_
  refine g_iload_n (pc := 31) hX d_EL_stepsLeft_31 rfl 1 rfl ?_
  refine g_iconst (pc := 32) hX d_EL_stepsLeft_32 zc_3 ?_
  obtain ⟨o3, e3, h⟩ := zbind h
  refine g_cvI (pc := 33)  (st := []) (w' := (zwX c q x)) hX zk_Co_sumOf zs_Co_sumOf zL_EL_232 (c_Co_sumOf c q x.2.2.2.2.1.1.1.1 o1 ((3 : Int32)) e3) rfl rfl rfl rfl (sp_EL_Co_7 c q x) (sp_EL_Co_7 c q x).symm 9 1 rfl rfl rfl d_EL_stepsLeft_33 ?_
  refine g_if_le (pc := 36) (tgt := 45) hX d_EL_stepsLeft_36 (by decide) h (fun c4 h => ?_) (fun c4 h => ?_)
  · refine g_iload_n (pc := 45) hX d_EL_stepsLeft_45 rfl 0 rfl ?_
    refine g_ls (L' := [(0, .ref ((q 17)))]) [2] rfl ?_
    exact w_EL_stepsLeft_46 hX hR _ h
  · refine g_iconst (pc := 39) hX d_EL_stepsLeft_39 zc_2 ?_
    refine g_iload_n (pc := 40) hX d_EL_stepsLeft_40 rfl 0 rfl ?_
    refine g_imul (pc := 41) hX d_EL_stepsLeft_41 ?_
    refine g_goto (pc := 42) (tgt := 46) hX d_EL_stepsLeft_42 (by decide) ?_
    refine g_ls (L' := [(0, .ref ((q 17)))]) [2] rfl ?_
    exact w_EL_stepsLeft_46 hX hR _ h)
theorem d_EL_move_0 : decode zb_EL_move 0 = .ok (.iload_n 1, 1) := by decide +kernel
theorem d_EL_move_1 : decode zb_EL_move 1 = .ok (.invokestatic 48, 3) := by decide +kernel
theorem d_EL_move_4 : decode zb_EL_move 4 = .ok (.ifCond .ne 5, 3) := by decide +kernel
theorem d_EL_move_7 : decode zb_EL_move 7 = .ok (.iconst (-1), 1) := by decide +kernel
theorem d_EL_move_8 : decode zb_EL_move 8 = .ok (.ireturn, 1) := by decide +kernel
theorem d_EL_move_9 : decode zb_EL_move 9 = .ok (.aload_n 0, 1) := by decide +kernel
theorem d_EL_move_10 : decode zb_EL_move 10 = .ok (.invokevirtual 141, 3) := by decide +kernel
theorem d_EL_move_13 : decode zb_EL_move 13 = .ok (.istore_n 2, 1) := by decide +kernel
theorem d_EL_move_14 : decode zb_EL_move 14 = .ok (.iload_n 2, 1) := by decide +kernel
theorem d_EL_move_15 : decode zb_EL_move 15 = .ok (.ifCond .ne 16, 3) := by decide +kernel
theorem d_EL_move_18 : decode zb_EL_move 18 = .ok (.aload_n 0, 1) := by decide +kernel
theorem d_EL_move_19 : decode zb_EL_move 19 = .ok (.getfield 10, 3) := by decide +kernel
theorem d_EL_move_22 : decode zb_EL_move 22 = .ok (.iload_n 1, 1) := by decide +kernel
theorem d_EL_move_23 : decode zb_EL_move 23 = .ok (.invokevirtual 52, 3) := by decide +kernel
theorem d_EL_move_26 : decode zb_EL_move 26 = .ok (.ifCond .ne 5, 3) := by decide +kernel
theorem d_EL_move_29 : decode zb_EL_move 29 = .ok (.iconst 5, 1) := by decide +kernel
theorem d_EL_move_30 : decode zb_EL_move 30 = .ok (.istore_n 2, 1) := by decide +kernel
theorem d_EL_move_31 : decode zb_EL_move 31 = .ok (.iload_n 2, 1) := by decide +kernel
theorem d_EL_move_32 : decode zb_EL_move 32 = .ok (.ifCond .eq 9, 3) := by decide +kernel
theorem d_EL_move_35 : decode zb_EL_move 35 = .ok (.aload_n 0, 1) := by decide +kernel
theorem d_EL_move_36 : decode zb_EL_move 36 = .ok (.iload_n 2, 1) := by decide +kernel
theorem d_EL_move_37 : decode zb_EL_move 37 = .ok (.invokevirtual 55, 3) := by decide +kernel
theorem d_EL_move_40 : decode zb_EL_move 40 = .ok (.ireturn, 1) := by decide +kernel
theorem d_EL_move_41 : decode zb_EL_move 41 = .ok (.aload_n 0, 1) := by decide +kernel
theorem d_EL_move_42 : decode zb_EL_move 42 = .ok (.getfield 36, 3) := by decide +kernel
theorem d_EL_move_45 : decode zb_EL_move 45 = .ok (.aload_n 0, 1) := by decide +kernel
theorem d_EL_move_46 : decode zb_EL_move 46 = .ok (.getfield 10, 3) := by decide +kernel
theorem d_EL_move_49 : decode zb_EL_move 49 = .ok (.aload_n 0, 1) := by decide +kernel
theorem d_EL_move_50 : decode zb_EL_move 50 = .ok (.getfield 10, 3) := by decide +kernel
theorem d_EL_move_53 : decode zb_EL_move 53 = .ok (.getfield 97, 3) := by decide +kernel
theorem d_EL_move_56 : decode zb_EL_move 56 = .ok (.invokevirtual 120, 3) := by decide +kernel
theorem d_EL_move_59 : decode zb_EL_move 59 = .ok (.iload_n 1, 1) := by decide +kernel
theorem d_EL_move_60 : decode zb_EL_move 60 = .ok (.invokevirtual 144, 3) := by decide +kernel
theorem d_EL_move_63 : decode zb_EL_move 63 = .ok (.istore_n 3, 1) := by decide +kernel
theorem d_EL_move_64 : decode zb_EL_move 64 = .ok (.iload_n 3, 1) := by decide +kernel
theorem d_EL_move_65 : decode zb_EL_move 65 = .ok (.bipush (-5), 2) := by decide +kernel
theorem d_EL_move_67 : decode zb_EL_move 67 = .ok (.if_icmp .eq 11, 3) := by decide +kernel
theorem d_EL_move_70 : decode zb_EL_move 70 = .ok (.iload_n 3, 1) := by decide +kernel
theorem d_EL_move_71 : decode zb_EL_move 71 = .ok (.aload_n 0, 1) := by decide +kernel
theorem d_EL_move_72 : decode zb_EL_move 72 = .ok (.invokevirtual 148, 3) := by decide +kernel
theorem d_EL_move_75 : decode zb_EL_move 75 = .ok (.if_icmp .le 10, 3) := by decide +kernel
theorem d_EL_move_78 : decode zb_EL_move 78 = .ok (.aload_n 0, 1) := by decide +kernel
theorem d_EL_move_79 : decode zb_EL_move 79 = .ok (.bipush 6, 2) := by decide +kernel
theorem d_EL_move_81 : decode zb_EL_move 81 = .ok (.invokevirtual 55, 3) := by decide +kernel
theorem d_EL_move_84 : decode zb_EL_move 84 = .ok (.ireturn, 1) := by decide +kernel
theorem d_EL_move_85 : decode zb_EL_move 85 = .ok (.aload_n 0, 1) := by decide +kernel
theorem d_EL_move_86 : decode zb_EL_move 86 = .ok (.getfield 22, 3) := by decide +kernel
theorem d_EL_move_89 : decode zb_EL_move 89 = .ok (.aload_n 0, 1) := by decide +kernel
theorem d_EL_move_90 : decode zb_EL_move 90 = .ok (.getfield 10, 3) := by decide +kernel
theorem d_EL_move_93 : decode zb_EL_move 93 = .ok (.invokevirtual 69, 3) := by decide +kernel
theorem d_EL_move_96 : decode zb_EL_move 96 = .ok (.aload_n 0, 1) := by decide +kernel
theorem d_EL_move_97 : decode zb_EL_move 97 = .ok (.getfield 10, 3) := by decide +kernel
theorem d_EL_move_100 : decode zb_EL_move 100 = .ok (.getfield 97, 3) := by decide +kernel
theorem d_EL_move_103 : decode zb_EL_move 103 = .ok (.dup, 1) := by decide +kernel
theorem d_EL_move_104 : decode zb_EL_move 104 = .ok (.getfield 151, 3) := by decide +kernel
theorem d_EL_move_107 : decode zb_EL_move 107 = .ok (.iload_n 3, 1) := by decide +kernel
theorem d_EL_move_108 : decode zb_EL_move 108 = .ok (.iadd, 1) := by decide +kernel
theorem d_EL_move_109 : decode zb_EL_move 109 = .ok (.putfield 151, 3) := by decide +kernel
theorem d_EL_move_112 : decode zb_EL_move 112 = .ok (.aload_n 0, 1) := by decide +kernel
theorem d_EL_move_113 : decode zb_EL_move 113 = .ok (.getfield 10, 3) := by decide +kernel
theorem d_EL_move_116 : decode zb_EL_move 116 = .ok (.getfield 59, 3) := by decide +kernel
theorem d_EL_move_119 : decode zb_EL_move 119 = .ok (.aload_n 0, 1) := by decide +kernel
theorem d_EL_move_120 : decode zb_EL_move 120 = .ok (.getfield 10, 3) := by decide +kernel
theorem d_EL_move_123 : decode zb_EL_move 123 = .ok (.getfield 97, 3) := by decide +kernel
theorem d_EL_move_126 : decode zb_EL_move 126 = .ok (.invokevirtual 120, 3) := by decide +kernel
theorem d_EL_move_129 : decode zb_EL_move 129 = .ok (.iload_n 1, 1) := by decide +kernel
theorem d_EL_move_130 : decode zb_EL_move 130 = .ok (.invokevirtual 154, 3) := by decide +kernel
theorem d_EL_move_133 : decode zb_EL_move 133 = .ok (.aload_n 0, 1) := by decide +kernel
theorem d_EL_move_134 : decode zb_EL_move 134 = .ok (.invokevirtual 148, 3) := by decide +kernel
theorem d_EL_move_137 : decode zb_EL_move 137 = .ok (.ireturn, 1) := by decide +kernel
def k_EL_move_31 (l1 : Int32) (l2 : Int32) (x : zsX) : Option (Int32 × zsX) := (if l2 = 0 then (k_En_current x.2.2.2.2.1.1).bind fun o6 => (k_Wa_measure x.2.2.2.2.1 x.2.2.2.1 o6 l1).bind fun o7 => (if o7.1 = (-5 : Int32) then (k_EL_refuse ((x.1, x.2.1, x.2.2.1, o7.2, x.2.2.2.2.1, x.2.2.2.2.2.1, x.2.2.2.2.2.2)) ((6 : Int32))).bind fun o9 => some (o9.1, o9.2) else (k_EL_stepsLeft ((x.1, x.2.1, x.2.2.1, o7.2, x.2.2.2.2.1, x.2.2.2.2.2.1, x.2.2.2.2.2.2))).bind fun o10 => (if o10 < o7.1 then (k_EL_refuse ((x.1, x.2.1, x.2.2.1, o7.2, x.2.2.2.2.1, x.2.2.2.2.2.1, x.2.2.2.2.2.2)) ((6 : Int32))).bind fun o16 => some (o16.1, o16.2) else (k_Ch_keep x.2.2.2.2.1 x.2.2.2.2.2.1).bind fun o12 => (k_En_current ((x.2.2.2.2.1.1.1, x.2.2.2.2.1.1.2.1, (upd x.2.2.2.2.1.1.2.2 6 (((x.2.2.2.2.1.1.2.2 6) + o7.1)))))).bind fun o13 => (k_Fi_moveTo x.2.2.2.2.1.1.1 o13 l1).bind fun o14 => (k_EL_stepsLeft ((x.1, x.2.1, x.2.2.1, o7.2, ((o14, x.2.2.2.2.1.1.2.1, (upd x.2.2.2.2.1.1.2.2 6 (((x.2.2.2.2.1.1.2.2 6) + o7.1)))), x.2.2.2.2.1.2.1, x.2.2.2.2.1.2.2.1, x.2.2.2.2.1.2.2.2), o12, x.2.2.2.2.2.2))).bind fun o15 => some (o15, (x.1, x.2.1, x.2.2.1, o7.2, ((o14, x.2.2.2.2.1.1.2.1, (upd x.2.2.2.2.1.1.2.2 6 (((x.2.2.2.2.1.1.2.2 6) + o7.1)))), x.2.2.2.2.1.2.1, x.2.2.2.2.1.2.2.1, x.2.2.2.2.1.2.2.2), o12, x.2.2.2.2.2.2)))) else (k_EL_refuse x l2).bind fun o17 => some (o17.1, o17.2))
set_option maxRecDepth 20000 in
theorem w_EL_move_31 {X : zX} {c : zY} {q : Nat → Nat} {l1 : Int32} {out : Int32 × zsX} (hX : Ok X zr_EL zb_EL_move 4 5 c) (hR : Rt X (some .int) (some (.int out.1)) (zwX c q out.2)) : ∀ (l2 : Int32) (x : zsX), k_EL_move_31 l1 l2 x = some out → Go X (zwX c q x) [(0, .ref ((q 17))), (1, .int l1), (2, .int l2)] 31 [] := by
  intro l2 x h
  rw [k_EL_move_31] at h
  refine g_iload_n (pc := 31) hX d_EL_move_31 rfl 2 rfl ?_
  refine g_if_eq (pc := 32) (tgt := 41) hX d_EL_move_32 (by decide) h (fun c5 h => ?_) (fun c5 h => ?_)
  · refine g_aload_n (pc := 41) hX d_EL_move_41 rfl 0 rfl ?_
    refine gf_EL_36 (pc := 42) (v := .ref ((q 21))) hX 3 rfl rfl d_EL_move_42 ?_
    refine g_aload_n (pc := 45) hX d_EL_move_45 rfl 0 rfl ?_
    refine gf_EL_10 (pc := 46) (v := .ref ((q 12))) hX 3 rfl rfl d_EL_move_46 ?_
    refine g_aload_n (pc := 49) hX d_EL_move_49 rfl 0 rfl ?_
    refine gf_EL_10 (pc := 50) (v := .ref ((q 12))) hX 3 rfl rfl d_EL_move_50 ?_
    refine gf_EL_97 (pc := 53) (v := .ref ((q 9))) hX 19 rfl rfl d_EL_move_53 ?_
    obtain ⟨o6, e6, h⟩ := zbind h
    refine g_cvI (pc := 56)  (st := [.ref ((q 12)), .ref ((q 21))]) (w' := (zwX c q x)) hX zk_En_current zs_En_current zL_EL_120 (c_En_current c q x.2.2.2.2.1.1 e6) rfl rfl rfl rfl (sp_EL_En_7 c q x) (sp_EL_En_7 c q x).symm 16 2 rfl rfl rfl d_EL_move_56 ?_
    refine g_iload_n (pc := 59) hX d_EL_move_59 rfl 1 rfl ?_
    obtain ⟨o7, e7, h⟩ := zbind h
    refine g_cvI (pc := 60) (st := []) (w' := (zwX c q ((x.1, x.2.1, x.2.2.1, o7.2, x.2.2.2.2.1, x.2.2.2.2.2.1, x.2.2.2.2.2.2)))) hX zk_Wa_measure zs_Wa_measure zL_EL_144 (c_Wa_measure c (q 21) (q 22) (q 23) q x.2.2.2.2.1 x.2.2.2.1 o6 l1 e7) rfl rfl rfl rfl (sp_WS c q x) (sq_WS c q x o7.2) 4 8 rfl rfl rfl d_EL_move_60 ?_
    refine g_istore_n (pc := 63) (L' := [(3, .int o7.1), (0, .ref ((q 17))), (1, .int l1), (2, .int l2)]) hX d_EL_move_63 rfl rfl rfl ?_
    refine g_iload_n (pc := 64) hX d_EL_move_64 rfl 0 rfl ?_
    refine g_bipush (pc := 65) hX d_EL_move_65 ze_m5 ?_
    refine g_icmp_eq (pc := 67) (tgt := 78) hX d_EL_move_67 (by decide) h (fun c8 h => ?_) (fun c8 h => ?_)
    · refine g_aload_n (pc := 78) hX d_EL_move_78 rfl 1 rfl ?_
      refine g_bipush (pc := 79) hX d_EL_move_79 ze_6 ?_
      obtain ⟨o9, e9, h⟩ := zbind h
      refine g_cvI (pc := 81) (w1 := []) (w2 := []) (st := []) (w' := (zwX c q o9.2)) hX zk_EL_refuse zs_EL_refuse zL_EL_55 (c_EL_refuse c q ((x.1, x.2.1, x.2.2.1, o7.2, x.2.2.2.2.1, x.2.2.2.2.2.1, x.2.2.2.2.2.2)) ((6 : Int32)) e9) rfl rfl rfl rfl (zself _) (zself _).symm 3 9 rfl rfl rfl d_EL_move_81 ?_
      obtain rfl := Option.some.inj h
      exact g_iret (pc := 84) hX hR d_EL_move_84
    · refine g_iload_n (pc := 70) hX d_EL_move_70 rfl 0 rfl ?_
      refine g_aload_n (pc := 71) hX d_EL_move_71 rfl 1 rfl ?_
      obtain ⟨o10, e10, h⟩ := zbind h
      refine g_cvI (pc := 72) (w1 := []) (w2 := []) (st := [.int o7.1]) (w' := (zwX c q ((x.1, x.2.1, x.2.2.1, o7.2, x.2.2.2.2.1, x.2.2.2.2.2.1, x.2.2.2.2.2.2)))) hX zk_EL_stepsLeft zs_EL_stepsLeft zL_EL_148 (c_EL_stepsLeft c q ((x.1, x.2.1, x.2.2.1, o7.2, x.2.2.2.2.1, x.2.2.2.2.2.1, x.2.2.2.2.2.2)) e10) rfl rfl rfl rfl (zself _) (zself _).symm 3 9 rfl rfl rfl d_EL_move_72 ?_
      refine g_icmp_le (pc := 75) (tgt := 85) hX d_EL_move_75 (by decide) h (fun c11 h => ?_) (fun c11 h => ?_)
      · refine g_aload_n (pc := 85) hX d_EL_move_85 rfl 1 rfl ?_
        refine gf_EL_22 (pc := 86) (v := .ref ((q 24))) hX 3 rfl rfl d_EL_move_86 ?_
        refine g_aload_n (pc := 89) hX d_EL_move_89 rfl 1 rfl ?_
        refine gf_EL_10 (pc := 90) (v := .ref ((q 12))) hX 3 rfl rfl d_EL_move_90 ?_
        obtain ⟨o12, e12, h⟩ := zbind h
        refine g_cvV (pc := 93) (st := []) (w' := (zwX c q ((x.1, x.2.1, x.2.2.1, o7.2, x.2.2.2.2.1, o12, x.2.2.2.2.2.2)))) hX zk_Ch_keep zs_Ch_keep zL_EL_69 (c_Ch_keep c q x.2.2.2.2.1 x.2.2.2.2.2.1 e12) rfl rfl rfl rfl (sp_KN c q ((x.1, x.2.1, x.2.2.1, o7.2, x.2.2.2.2.1, x.2.2.2.2.2.1, x.2.2.2.2.2.2))) (sq_KN c q ((x.1, x.2.1, x.2.2.1, o7.2, x.2.2.2.2.1, x.2.2.2.2.2.1, x.2.2.2.2.2.2)) o12) 24 0 rfl rfl rfl d_EL_move_93 ?_
        refine g_aload_n (pc := 96) hX d_EL_move_96 rfl 1 rfl ?_
        refine gf_EL_10 (pc := 97) (v := .ref ((q 12))) hX 3 rfl rfl d_EL_move_97 ?_
        refine gf_EL_97 (pc := 100) (v := .ref ((q 9))) hX 19 rfl rfl d_EL_move_100 ?_
        refine g_dup (pc := 103) hX d_EL_move_103 rfl ?_
        refine gf_EL_151 (pc := 104) (v := .int ((x.2.2.2.2.1.1.2.2 6))) hX 16 rfl rfl d_EL_move_104 ?_
        refine g_iload_n (pc := 107) hX d_EL_move_107 rfl 0 rfl ?_
        refine g_iadd (pc := 108) hX d_EL_move_108 ?_
        refine pf_EL_151 (pc := 109) (w2 := (zwX c q ((x.1, x.2.1, x.2.2.1, o7.2, ((x.2.2.2.2.1.1.1, x.2.2.2.2.1.1.2.1, (upd x.2.2.2.2.1.1.2.2 6 (((x.2.2.2.2.1.1.2.2 6) + o7.1)))), x.2.2.2.2.1.2.1, x.2.2.2.2.1.2.2.1, x.2.2.2.2.1.2.2.2), o12, x.2.2.2.2.2.2)))) hX 16 rfl rfl (su_EL_16_6 c q ((x.1, x.2.1, x.2.2.1, o7.2, x.2.2.2.2.1, o12, x.2.2.2.2.2.2)) (((x.2.2.2.2.1.1.2.2 6) + o7.1))) d_EL_move_109 ?_
        refine g_aload_n (pc := 112) hX d_EL_move_112 rfl 1 rfl ?_
        refine gf_EL_10 (pc := 113) (v := .ref ((q 12))) hX 3 rfl rfl d_EL_move_113 ?_
        refine gf_EL_59 (pc := 116) (v := .ref ((q 6))) hX 19 rfl rfl d_EL_move_116 ?_
        refine g_aload_n (pc := 119) hX d_EL_move_119 rfl 1 rfl ?_
        refine gf_EL_10 (pc := 120) (v := .ref ((q 12))) hX 3 rfl rfl d_EL_move_120 ?_
        refine gf_EL_97 (pc := 123) (v := .ref ((q 9))) hX 19 rfl rfl d_EL_move_123 ?_
        obtain ⟨o13, e13, h⟩ := zbind h
        refine g_cvI (pc := 126)  (st := [.ref ((q 6))]) (w' := (zwX c q ((x.1, x.2.1, x.2.2.1, o7.2, ((x.2.2.2.2.1.1.1, x.2.2.2.2.1.1.2.1, (upd x.2.2.2.2.1.1.2.2 6 (((x.2.2.2.2.1.1.2.2 6) + o7.1)))), x.2.2.2.2.1.2.1, x.2.2.2.2.1.2.2.1, x.2.2.2.2.1.2.2.2), o12, x.2.2.2.2.2.2)))) hX zk_En_current zs_En_current zL_EL_120 (c_En_current c q ((x.2.2.2.2.1.1.1, x.2.2.2.2.1.1.2.1, (upd x.2.2.2.2.1.1.2.2 6 (((x.2.2.2.2.1.1.2.2 6) + o7.1))))) e13) rfl rfl rfl rfl (sp_EL_En_7 c q ((x.1, x.2.1, x.2.2.1, o7.2, ((x.2.2.2.2.1.1.1, x.2.2.2.2.1.1.2.1, (upd x.2.2.2.2.1.1.2.2 6 (((x.2.2.2.2.1.1.2.2 6) + o7.1)))), x.2.2.2.2.1.2.1, x.2.2.2.2.1.2.2.1, x.2.2.2.2.1.2.2.2), o12, x.2.2.2.2.2.2))) (sp_EL_En_7 c q ((x.1, x.2.1, x.2.2.1, o7.2, ((x.2.2.2.2.1.1.1, x.2.2.2.2.1.1.2.1, (upd x.2.2.2.2.1.1.2.2 6 (((x.2.2.2.2.1.1.2.2 6) + o7.1)))), x.2.2.2.2.1.2.1, x.2.2.2.2.1.2.2.1, x.2.2.2.2.1.2.2.2), o12, x.2.2.2.2.2.2))).symm 16 2 rfl rfl rfl d_EL_move_126 ?_
        refine g_iload_n (pc := 129) hX d_EL_move_129 rfl 2 rfl ?_
        obtain ⟨o14, e14, h⟩ := zbind h
        refine g_cvV (pc := 130)  (st := []) (w' := (zwX c q ((x.1, x.2.1, x.2.2.1, o7.2, ((o14, x.2.2.2.2.1.1.2.1, (upd x.2.2.2.2.1.1.2.2 6 (((x.2.2.2.2.1.1.2.2 6) + o7.1)))), x.2.2.2.2.1.2.1, x.2.2.2.2.1.2.2.1, x.2.2.2.2.1.2.2.2), o12, x.2.2.2.2.2.2)))) hX zk_Fi_moveTo zs_Fi_moveTo zL_EL_154 (c_Fi_moveTo c q x.2.2.2.2.1.1.1 o13 l1 e14) rfl rfl rfl rfl (sp_EL_Fi_7 c q ((x.1, x.2.1, x.2.2.1, o7.2, ((x.2.2.2.2.1.1.1, x.2.2.2.2.1.1.2.1, (upd x.2.2.2.2.1.1.2.2 6 (((x.2.2.2.2.1.1.2.2 6) + o7.1)))), x.2.2.2.2.1.2.1, x.2.2.2.2.1.2.2.1, x.2.2.2.2.1.2.2.2), o12, x.2.2.2.2.2.2))) (sq_EL_Fi_7 c q ((x.1, x.2.1, x.2.2.1, o7.2, ((x.2.2.2.2.1.1.1, x.2.2.2.2.1.1.2.1, (upd x.2.2.2.2.1.1.2.2 6 (((x.2.2.2.2.1.1.2.2 6) + o7.1)))), x.2.2.2.2.1.2.1, x.2.2.2.2.1.2.2.1, x.2.2.2.2.1.2.2.2), o12, x.2.2.2.2.2.2)) o14) 13 3 rfl rfl rfl d_EL_move_130 ?_
        refine g_aload_n (pc := 133) hX d_EL_move_133 rfl 1 rfl ?_
        obtain ⟨o15, e15, h⟩ := zbind h
        refine g_cvI (pc := 134) (w1 := []) (w2 := []) (st := []) (w' := (zwX c q ((x.1, x.2.1, x.2.2.1, o7.2, ((o14, x.2.2.2.2.1.1.2.1, (upd x.2.2.2.2.1.1.2.2 6 (((x.2.2.2.2.1.1.2.2 6) + o7.1)))), x.2.2.2.2.1.2.1, x.2.2.2.2.1.2.2.1, x.2.2.2.2.1.2.2.2), o12, x.2.2.2.2.2.2)))) hX zk_EL_stepsLeft zs_EL_stepsLeft zL_EL_148 (c_EL_stepsLeft c q ((x.1, x.2.1, x.2.2.1, o7.2, ((o14, x.2.2.2.2.1.1.2.1, (upd x.2.2.2.2.1.1.2.2 6 (((x.2.2.2.2.1.1.2.2 6) + o7.1)))), x.2.2.2.2.1.2.1, x.2.2.2.2.1.2.2.1, x.2.2.2.2.1.2.2.2), o12, x.2.2.2.2.2.2)) e15) rfl rfl rfl rfl (zself _) (zself _).symm 3 9 rfl rfl rfl d_EL_move_134 ?_
        obtain rfl := Option.some.inj h
        exact g_iret (pc := 137) hX hR d_EL_move_137
      · refine g_aload_n (pc := 78) hX d_EL_move_78 rfl 1 rfl ?_
        refine g_bipush (pc := 79) hX d_EL_move_79 ze_6 ?_
        obtain ⟨o16, e16, h⟩ := zbind h
        refine g_cvI (pc := 81) (w1 := []) (w2 := []) (st := []) (w' := (zwX c q o16.2)) hX zk_EL_refuse zs_EL_refuse zL_EL_55 (c_EL_refuse c q ((x.1, x.2.1, x.2.2.1, o7.2, x.2.2.2.2.1, x.2.2.2.2.2.1, x.2.2.2.2.2.2)) ((6 : Int32)) e16) rfl rfl rfl rfl (zself _) (zself _).symm 3 9 rfl rfl rfl d_EL_move_81 ?_
        obtain rfl := Option.some.inj h
        exact g_iret (pc := 84) hX hR d_EL_move_84
  · refine g_aload_n (pc := 35) hX d_EL_move_35 rfl 0 rfl ?_
    refine g_iload_n (pc := 36) hX d_EL_move_36 rfl 2 rfl ?_
    obtain ⟨o17, e17, h⟩ := zbind h
    refine g_cvI (pc := 37) (w1 := []) (w2 := []) (st := []) (w' := (zwX c q o17.2)) hX zk_EL_refuse zs_EL_refuse zL_EL_55 (c_EL_refuse c q x l2 e17) rfl rfl rfl rfl (zself _) (zself _).symm 3 9 rfl rfl rfl d_EL_move_37 ?_
    obtain rfl := Option.some.inj h
    exact g_iret (pc := 40) hX hR d_EL_move_40
def k_EL_move (x : zsX) (l1 : Int32) : Option (Int32 × zsX) := (k_EL_isCell l1).bind fun o1 => (if o1 = 0 then some ((-1 : Int32), x) else (k_EL_whyCannotAct x).bind fun o3 => (if o3 = 0 then (k_St_isFree x.2.2.2.2.1 l1).bind fun o18 => (if o18 = 0 then k_EL_move_31 l1 ((5 : Int32)) x else k_EL_move_31 l1 o3 x) else k_EL_move_31 l1 o3 x))
set_option maxRecDepth 20000 in
theorem c_EL_move (c : zY) (q : Nat → Nat) (x : zsX) (l1 : Int32) {out : Int32 × zsX} (h : k_EL_move x l1 = some out) : KM zy_EL_move zb_EL_move 4 (some .int) 5 c [.ref ((q 17)), .int l1] (zwX c q x) (zwX c q out.2) (some (.int out.1)) := zK_of zp_EL rfl (Nat.le_of_ble_eq_true rfl) (zq_EL c q _ _) (fun X hX hR => by
  show Go X (zwX c q x) [(0, .ref ((q 17))), (1, .int l1)] 0 []
  rw [k_EL_move] at h
  refine g_iload_n (pc := 0) hX d_EL_move_0 rfl 1 rfl ?_
  obtain ⟨o1, e1, h⟩ := zbind h
  refine g_csI (pc := 1) (st := []) hX zk_EL_isCell zL_EL_48 (c_EL_isCell c l1 e1) rfl rfl rfl rfl rfl d_EL_move_1 ?_
  refine g_if_ne (pc := 4) (tgt := 9) hX d_EL_move_4 (by decide) h (fun c2 h => ?_) (fun c2 h => ?_)
  · refine g_aload_n (pc := 9) hX d_EL_move_9 rfl 0 rfl ?_
    obtain ⟨o3, e3, h⟩ := zbind h
    refine g_cvI (pc := 10) (w1 := []) (w2 := []) (st := []) (w' := (zwX c q x)) hX zk_EL_whyCannotAct zs_EL_whyCannotAct zL_EL_141 (c_EL_whyCannotAct c q x e3) rfl rfl rfl rfl (zself _) (zself _).symm 3 9 rfl rfl rfl d_EL_move_10 ?_
    refine g_istore_n (pc := 13) (L' := [(2, .int o3), (0, .ref ((q 17))), (1, .int l1)]) hX d_EL_move_13 rfl rfl rfl ?_
    refine g_iload_n (pc := 14) hX d_EL_move_14 rfl 0 rfl ?_
    refine g_if_ne (pc := 15) (tgt := 31) hX d_EL_move_15 (by decide) h (fun c4 h => ?_) (fun c4 h => ?_)
    · refine g_ls (L' := [(0, .ref ((q 17))), (1, .int l1), (2, .int o3)]) [1, 2, 0] rfl ?_
      exact w_EL_move_31 hX hR _ _ h
    · refine g_aload_n (pc := 18) hX d_EL_move_18 rfl 1 rfl ?_
      refine gf_EL_10 (pc := 19) (v := .ref ((q 12))) hX 3 rfl rfl d_EL_move_19 ?_
      refine g_iload_n (pc := 22) hX d_EL_move_22 rfl 2 rfl ?_
      obtain ⟨o18, e18, h⟩ := zbind h
      refine g_cvI (pc := 23)  (st := []) (w' := (zwX c q x)) hX zk_St_isFree zs_St_isFree zL_EL_52 (c_St_isFree c q x.2.2.2.2.1 l1 e18) rfl rfl rfl rfl (sp_EL_St_7 c q x) (sp_EL_St_7 c q x).symm 19 5 rfl rfl rfl d_EL_move_23 ?_
      refine g_if_ne (pc := 26) (tgt := 31) hX d_EL_move_26 (by decide) h (fun c19 h => ?_) (fun c19 h => ?_)
      · refine g_ls (L' := [(0, .ref ((q 17))), (1, .int l1), (2, .int o3)]) [1, 2, 0] rfl ?_
        exact w_EL_move_31 hX hR _ _ h
      · refine g_iconst (pc := 29) hX d_EL_move_29 zc_5 ?_
        refine g_istore_n (pc := 30) (L' := [(2, .int ((5 : Int32))), (0, .ref ((q 17))), (1, .int l1)]) hX d_EL_move_30 rfl rfl rfl ?_
        refine g_ls (L' := [(0, .ref ((q 17))), (1, .int l1), (2, .int ((5 : Int32)))]) [1, 2, 0] rfl ?_
        exact w_EL_move_31 hX hR _ _ h
  · refine g_iconst (pc := 7) hX d_EL_move_7 zc_m1 ?_
    obtain rfl := Option.some.inj h
    exact g_iret (pc := 8) hX hR d_EL_move_8)
theorem d_EL_canBeStruck_0 : decode zb_EL_canBeStruck 0 = .ok (.aload_n 0, 1) := by decide +kernel
theorem d_EL_canBeStruck_1 : decode zb_EL_canBeStruck 1 = .ok (.getfield 10, 3) := by decide +kernel
theorem d_EL_canBeStruck_4 : decode zb_EL_canBeStruck 4 = .ok (.getfield 97, 3) := by decide +kernel
theorem d_EL_canBeStruck_7 : decode zb_EL_canBeStruck 7 = .ok (.invokevirtual 120, 3) := by decide +kernel
theorem d_EL_canBeStruck_10 : decode zb_EL_canBeStruck 10 = .ok (.istore_n 2, 1) := by decide +kernel
theorem d_EL_canBeStruck_11 : decode zb_EL_canBeStruck 11 = .ok (.aload_n 0, 1) := by decide +kernel
theorem d_EL_canBeStruck_12 : decode zb_EL_canBeStruck 12 = .ok (.getfield 10, 3) := by decide +kernel
theorem d_EL_canBeStruck_15 : decode zb_EL_canBeStruck 15 = .ok (.getfield 59, 3) := by decide +kernel
theorem d_EL_canBeStruck_18 : decode zb_EL_canBeStruck 18 = .ok (.iload_n 2, 1) := by decide +kernel
theorem d_EL_canBeStruck_19 : decode zb_EL_canBeStruck 19 = .ok (.iload_n 1, 1) := by decide +kernel
theorem d_EL_canBeStruck_20 : decode zb_EL_canBeStruck 20 = .ok (.invokevirtual 322, 3) := by decide +kernel
theorem d_EL_canBeStruck_23 : decode zb_EL_canBeStruck 23 = .ok (.ifCond .eq 54, 3) := by decide +kernel
theorem d_EL_canBeStruck_26 : decode zb_EL_canBeStruck 26 = .ok (.aload_n 0, 1) := by decide +kernel
theorem d_EL_canBeStruck_27 : decode zb_EL_canBeStruck 27 = .ok (.getfield 10, 3) := by decide +kernel
theorem d_EL_canBeStruck_30 : decode zb_EL_canBeStruck 30 = .ok (.getfield 59, 3) := by decide +kernel
theorem d_EL_canBeStruck_33 : decode zb_EL_canBeStruck 33 = .ok (.iload_n 1, 1) := by decide +kernel
theorem d_EL_canBeStruck_34 : decode zb_EL_canBeStruck 34 = .ok (.invokevirtual 326, 3) := by decide +kernel
theorem d_EL_canBeStruck_37 : decode zb_EL_canBeStruck 37 = .ok (.ifCond .ne 40, 3) := by decide +kernel
theorem d_EL_canBeStruck_40 : decode zb_EL_canBeStruck 40 = .ok (.iconst 1, 1) := by decide +kernel
theorem d_EL_canBeStruck_41 : decode zb_EL_canBeStruck 41 = .ok (.aload_n 0, 1) := by decide +kernel
theorem d_EL_canBeStruck_42 : decode zb_EL_canBeStruck 42 = .ok (.getfield 10, 3) := by decide +kernel
theorem d_EL_canBeStruck_45 : decode zb_EL_canBeStruck 45 = .ok (.getfield 59, 3) := by decide +kernel
theorem d_EL_canBeStruck_48 : decode zb_EL_canBeStruck 48 = .ok (.iload_n 2, 1) := by decide +kernel
theorem d_EL_canBeStruck_49 : decode zb_EL_canBeStruck 49 = .ok (.iconst 1, 1) := by decide +kernel
theorem d_EL_canBeStruck_50 : decode zb_EL_canBeStruck 50 = .ok (.invokevirtual 107, 3) := by decide +kernel
theorem d_EL_canBeStruck_53 : decode zb_EL_canBeStruck 53 = .ok (.iconst 0, 1) := by decide +kernel
theorem d_EL_canBeStruck_54 : decode zb_EL_canBeStruck 54 = .ok (.iconst 1, 1) := by decide +kernel
theorem d_EL_canBeStruck_55 : decode zb_EL_canBeStruck 55 = .ok (.aload_n 0, 1) := by decide +kernel
theorem d_EL_canBeStruck_56 : decode zb_EL_canBeStruck 56 = .ok (.getfield 10, 3) := by decide +kernel
theorem d_EL_canBeStruck_59 : decode zb_EL_canBeStruck 59 = .ok (.getfield 59, 3) := by decide +kernel
theorem d_EL_canBeStruck_62 : decode zb_EL_canBeStruck 62 = .ok (.iload_n 1, 1) := by decide +kernel
theorem d_EL_canBeStruck_63 : decode zb_EL_canBeStruck 63 = .ok (.iconst 1, 1) := by decide +kernel
theorem d_EL_canBeStruck_64 : decode zb_EL_canBeStruck 64 = .ok (.invokevirtual 107, 3) := by decide +kernel
theorem d_EL_canBeStruck_67 : decode zb_EL_canBeStruck 67 = .ok (.invokestatic 253, 3) := by decide +kernel
theorem d_EL_canBeStruck_70 : decode zb_EL_canBeStruck 70 = .ok (.ifCond .eq 7, 3) := by decide +kernel
theorem d_EL_canBeStruck_73 : decode zb_EL_canBeStruck 73 = .ok (.iconst 1, 1) := by decide +kernel
theorem d_EL_canBeStruck_74 : decode zb_EL_canBeStruck 74 = .ok (.goto 4, 3) := by decide +kernel
theorem d_EL_canBeStruck_77 : decode zb_EL_canBeStruck 77 = .ok (.iconst 0, 1) := by decide +kernel
theorem d_EL_canBeStruck_78 : decode zb_EL_canBeStruck 78 = .ok (.ireturn, 1) := by decide +kernel
def k_EL_canBeStruck (x : zsX) (l1 : Int32) : Option (Int32) := (k_En_current x.2.2.2.2.1.1).bind fun o1 => (k_Fi_areFoes x.2.2.2.2.1.1.1 o1 l1).bind fun o2 => (if o2 = 0 then some ((0 : Int32)) else (k_Fi_isDown x.2.2.2.2.1.1.1 l1).bind fun o4 => (if o4 = 0 then (k_Fi_at x.2.2.2.2.1.1.1 o1 ((1 : Int32))).bind fun o6 => (k_Fi_at x.2.2.2.2.1.1.1 l1 ((1 : Int32))).bind fun o7 => (k_EL_isInArea ((1 : Int32)) o6 ((0 : Int32)) ((1 : Int32)) o7).bind fun o8 => (if o8 = 0 then some ((0 : Int32)) else some ((1 : Int32))) else some ((0 : Int32))))
set_option maxRecDepth 20000 in
theorem c_EL_canBeStruck (c : zY) (q : Nat → Nat) (x : zsX) (l1 : Int32) {out : Int32} (h : k_EL_canBeStruck x l1 = some out) : KM zy_EL_canBeStruck zb_EL_canBeStruck 3 (some .boolean) 2 c [.ref ((q 17)), .int l1] (zwX c q x) (zwX c q x) (some (.int out)) := zK_of zp_EL rfl (Nat.le_of_ble_eq_true rfl) (zq_EL c q _ _) (fun X hX hR => by
  show Go X (zwX c q x) [(0, .ref ((q 17))), (1, .int l1)] 0 []
  rw [k_EL_canBeStruck] at h
  refine g_aload_n (pc := 0) hX d_EL_canBeStruck_0 rfl 0 rfl ?_
  refine gf_EL_10 (pc := 1) (v := .ref ((q 12))) hX 3 rfl rfl d_EL_canBeStruck_1 ?_
  refine gf_EL_97 (pc := 4) (v := .ref ((q 9))) hX 19 rfl rfl d_EL_canBeStruck_4 ?_
  obtain ⟨o1, e1, h⟩ := zbind h
  refine g_cvI (pc := 7)  (st := []) (w' := (zwX c q x)) hX zk_En_current zs_En_current zL_EL_120 (c_En_current c q x.2.2.2.2.1.1 e1) rfl rfl rfl rfl (sp_EL_En_7 c q x) (sp_EL_En_7 c q x).symm 16 2 rfl rfl rfl d_EL_canBeStruck_7 ?_
  refine g_istore_n (pc := 10) (L' := [(2, .int o1), (0, .ref ((q 17))), (1, .int l1)]) hX d_EL_canBeStruck_10 rfl rfl rfl ?_
  refine g_aload_n (pc := 11) hX d_EL_canBeStruck_11 rfl 1 rfl ?_
  refine gf_EL_10 (pc := 12) (v := .ref ((q 12))) hX 3 rfl rfl d_EL_canBeStruck_12 ?_
  refine gf_EL_59 (pc := 15) (v := .ref ((q 6))) hX 19 rfl rfl d_EL_canBeStruck_15 ?_
  refine g_iload_n (pc := 18) hX d_EL_canBeStruck_18 rfl 0 rfl ?_
  refine g_iload_n (pc := 19) hX d_EL_canBeStruck_19 rfl 2 rfl ?_
  obtain ⟨o2, e2, h⟩ := zbind h
  refine g_cvI (pc := 20)  (st := []) (w' := (zwX c q x)) hX zk_Fi_areFoes zs_Fi_areFoes zL_EL_322 (c_Fi_areFoes c q x.2.2.2.2.1.1.1 o1 l1 e2) rfl rfl rfl rfl (sp_EL_Fi_7 c q x) (sp_EL_Fi_7 c q x).symm 13 3 rfl rfl rfl d_EL_canBeStruck_20 ?_
  refine g_if_eq (pc := 23) (tgt := 77) hX d_EL_canBeStruck_23 (by decide) h (fun c3 h => ?_) (fun c3 h => ?_)
  · refine g_iconst (pc := 77) hX d_EL_canBeStruck_77 zc_0 ?_
    obtain rfl := Option.some.inj h
    exact g_zret (pc := 78) hX hR (Or.inl rfl) d_EL_canBeStruck_78
  · refine g_aload_n (pc := 26) hX d_EL_canBeStruck_26 rfl 1 rfl ?_
    refine gf_EL_10 (pc := 27) (v := .ref ((q 12))) hX 3 rfl rfl d_EL_canBeStruck_27 ?_
    refine gf_EL_59 (pc := 30) (v := .ref ((q 6))) hX 19 rfl rfl d_EL_canBeStruck_30 ?_
    refine g_iload_n (pc := 33) hX d_EL_canBeStruck_33 rfl 2 rfl ?_
    obtain ⟨o4, e4, h⟩ := zbind h
    refine g_cvI (pc := 34)  (st := []) (w' := (zwX c q x)) hX zk_Fi_isDown zs_Fi_isDown zL_EL_326 (c_Fi_isDown c q x.2.2.2.2.1.1.1 l1 e4) rfl rfl rfl rfl (sp_EL_Fi_7 c q x) (sp_EL_Fi_7 c q x).symm 13 3 rfl rfl rfl d_EL_canBeStruck_34 ?_
    refine g_if_ne (pc := 37) (tgt := 77) hX d_EL_canBeStruck_37 (by decide) h (fun c5 h => ?_) (fun c5 h => ?_)
    · refine g_iconst (pc := 77) hX d_EL_canBeStruck_77 zc_0 ?_
      obtain rfl := Option.some.inj h
      exact g_zret (pc := 78) hX hR (Or.inl rfl) d_EL_canBeStruck_78
    · refine g_iconst (pc := 40) hX d_EL_canBeStruck_40 zc_1 ?_
      refine g_aload_n (pc := 41) hX d_EL_canBeStruck_41 rfl 1 rfl ?_
      refine gf_EL_10 (pc := 42) (v := .ref ((q 12))) hX 3 rfl rfl d_EL_canBeStruck_42 ?_
      refine gf_EL_59 (pc := 45) (v := .ref ((q 6))) hX 19 rfl rfl d_EL_canBeStruck_45 ?_
      refine g_iload_n (pc := 48) hX d_EL_canBeStruck_48 rfl 0 rfl ?_
      refine g_iconst (pc := 49) hX d_EL_canBeStruck_49 zc_1 ?_
      obtain ⟨o6, e6, h⟩ := zbind h
      refine g_cvI (pc := 50)  (st := [.int ((1 : Int32))]) (w' := (zwX c q x)) hX zk_Fi_at zs_Fi_at zL_EL_107 (c_Fi_at c q x.2.2.2.2.1.1.1 o1 ((1 : Int32)) e6) rfl rfl rfl rfl (sp_EL_Fi_7 c q x) (sp_EL_Fi_7 c q x).symm 13 3 rfl rfl rfl d_EL_canBeStruck_50 ?_
      refine g_iconst (pc := 53) hX d_EL_canBeStruck_53 zc_0 ?_
      refine g_iconst (pc := 54) hX d_EL_canBeStruck_54 zc_1 ?_
      refine g_aload_n (pc := 55) hX d_EL_canBeStruck_55 rfl 1 rfl ?_
      refine gf_EL_10 (pc := 56) (v := .ref ((q 12))) hX 3 rfl rfl d_EL_canBeStruck_56 ?_
      refine gf_EL_59 (pc := 59) (v := .ref ((q 6))) hX 19 rfl rfl d_EL_canBeStruck_59 ?_
      refine g_iload_n (pc := 62) hX d_EL_canBeStruck_62 rfl 2 rfl ?_
      refine g_iconst (pc := 63) hX d_EL_canBeStruck_63 zc_1 ?_
      obtain ⟨o7, e7, h⟩ := zbind h
      refine g_cvI (pc := 64)  (st := [.int ((1 : Int32)), .int ((0 : Int32)), .int o6, .int ((1 : Int32))]) (w' := (zwX c q x)) hX zk_Fi_at zs_Fi_at zL_EL_107 (c_Fi_at c q x.2.2.2.2.1.1.1 l1 ((1 : Int32)) e7) rfl rfl rfl rfl (sp_EL_Fi_7 c q x) (sp_EL_Fi_7 c q x).symm 13 3 rfl rfl rfl d_EL_canBeStruck_64 ?_
      obtain ⟨o8, e8, h⟩ := zbind h
      refine g_csI (pc := 67) (st := []) hX zk_EL_isInArea zL_EL_253 (c_EL_isInArea c ((1 : Int32)) o6 ((0 : Int32)) ((1 : Int32)) o7 e8) rfl rfl rfl rfl rfl d_EL_canBeStruck_67 ?_
      refine g_if_eq (pc := 70) (tgt := 77) hX d_EL_canBeStruck_70 (by decide) h (fun c9 h => ?_) (fun c9 h => ?_)
      · refine g_iconst (pc := 77) hX d_EL_canBeStruck_77 zc_0 ?_
        obtain rfl := Option.some.inj h
        exact g_zret (pc := 78) hX hR (Or.inl rfl) d_EL_canBeStruck_78
      · refine g_iconst (pc := 73) hX d_EL_canBeStruck_73 zc_1 ?_
        refine g_goto (pc := 74) (tgt := 78) hX d_EL_canBeStruck_74 (by decide) ?_
        obtain rfl := Option.some.inj h
        exact g_zret (pc := 78) hX hR (Or.inr rfl) d_EL_canBeStruck_78)
theorem d_EL_strike_0 : decode zb_EL_strike 0 = .ok (.aload_n 0, 1) := by decide +kernel
theorem d_EL_strike_1 : decode zb_EL_strike 1 = .ok (.getfield 10, 3) := by decide +kernel
theorem d_EL_strike_4 : decode zb_EL_strike 4 = .ok (.getfield 59, 3) := by decide +kernel
theorem d_EL_strike_7 : decode zb_EL_strike 7 = .ok (.iload_n 1, 1) := by decide +kernel
theorem d_EL_strike_8 : decode zb_EL_strike 8 = .ok (.invokevirtual 94, 3) := by decide +kernel
theorem d_EL_strike_11 : decode zb_EL_strike 11 = .ok (.ifCond .ne 5, 3) := by decide +kernel
theorem d_EL_strike_14 : decode zb_EL_strike 14 = .ok (.iconst (-1), 1) := by decide +kernel
theorem d_EL_strike_15 : decode zb_EL_strike 15 = .ok (.ireturn, 1) := by decide +kernel
theorem d_EL_strike_16 : decode zb_EL_strike 16 = .ok (.aload_n 0, 1) := by decide +kernel
theorem d_EL_strike_17 : decode zb_EL_strike 17 = .ok (.invokevirtual 132, 3) := by decide +kernel
theorem d_EL_strike_20 : decode zb_EL_strike 20 = .ok (.istore_n 2, 1) := by decide +kernel
theorem d_EL_strike_21 : decode zb_EL_strike 21 = .ok (.iload_n 2, 1) := by decide +kernel
theorem d_EL_strike_22 : decode zb_EL_strike 22 = .ok (.ifCond .ne 14, 3) := by decide +kernel
theorem d_EL_strike_25 : decode zb_EL_strike 25 = .ok (.aload_n 0, 1) := by decide +kernel
theorem d_EL_strike_26 : decode zb_EL_strike 26 = .ok (.iload_n 1, 1) := by decide +kernel
theorem d_EL_strike_27 : decode zb_EL_strike 27 = .ok (.invokevirtual 158, 3) := by decide +kernel
theorem d_EL_strike_30 : decode zb_EL_strike 30 = .ok (.ifCond .ne 6, 3) := by decide +kernel
theorem d_EL_strike_33 : decode zb_EL_strike 33 = .ok (.bipush 7, 2) := by decide +kernel
theorem d_EL_strike_35 : decode zb_EL_strike 35 = .ok (.istore_n 2, 1) := by decide +kernel
theorem d_EL_strike_36 : decode zb_EL_strike 36 = .ok (.iload_n 2, 1) := by decide +kernel
theorem d_EL_strike_37 : decode zb_EL_strike 37 = .ok (.ifCond .eq 9, 3) := by decide +kernel
theorem d_EL_strike_40 : decode zb_EL_strike 40 = .ok (.aload_n 0, 1) := by decide +kernel
theorem d_EL_strike_41 : decode zb_EL_strike 41 = .ok (.iload_n 2, 1) := by decide +kernel
theorem d_EL_strike_42 : decode zb_EL_strike 42 = .ok (.invokevirtual 55, 3) := by decide +kernel
theorem d_EL_strike_45 : decode zb_EL_strike 45 = .ok (.ireturn, 1) := by decide +kernel
theorem d_EL_strike_46 : decode zb_EL_strike 46 = .ok (.aload_n 0, 1) := by decide +kernel
theorem d_EL_strike_47 : decode zb_EL_strike 47 = .ok (.getfield 22, 3) := by decide +kernel
theorem d_EL_strike_50 : decode zb_EL_strike 50 = .ok (.aload_n 0, 1) := by decide +kernel
theorem d_EL_strike_51 : decode zb_EL_strike 51 = .ok (.getfield 10, 3) := by decide +kernel
theorem d_EL_strike_54 : decode zb_EL_strike 54 = .ok (.invokevirtual 69, 3) := by decide +kernel
theorem d_EL_strike_57 : decode zb_EL_strike 57 = .ok (.aload_n 0, 1) := by decide +kernel
theorem d_EL_strike_58 : decode zb_EL_strike 58 = .ok (.getfield 10, 3) := by decide +kernel
theorem d_EL_strike_61 : decode zb_EL_strike 61 = .ok (.getfield 97, 3) := by decide +kernel
theorem d_EL_strike_64 : decode zb_EL_strike 64 = .ok (.iload_n 1, 1) := by decide +kernel
theorem d_EL_strike_65 : decode zb_EL_strike 65 = .ok (.invokevirtual 161, 3) := by decide +kernel
theorem d_EL_strike_68 : decode zb_EL_strike 68 = .ok (.aload_n 0, 1) := by decide +kernel
theorem d_EL_strike_69 : decode zb_EL_strike 69 = .ok (.getfield 10, 3) := by decide +kernel
theorem d_EL_strike_72 : decode zb_EL_strike 72 = .ok (.getfield 59, 3) := by decide +kernel
theorem d_EL_strike_75 : decode zb_EL_strike 75 = .ok (.iload_n 1, 1) := by decide +kernel
theorem d_EL_strike_76 : decode zb_EL_strike 76 = .ok (.iconst 5, 1) := by decide +kernel
theorem d_EL_strike_77 : decode zb_EL_strike 77 = .ok (.invokevirtual 164, 3) := by decide +kernel
theorem d_EL_strike_80 : decode zb_EL_strike 80 = .ok (.ireturn, 1) := by decide +kernel
def k_EL_strike_36 (l1 : Int32) (l2 : Int32) (x : zsX) : Option (Int32 × zsX) := (if l2 = 0 then (k_Ch_keep x.2.2.2.2.1 x.2.2.2.2.2.1).bind fun o6 => (k_En_act x.2.2.2.2.1.1 l1).bind fun o7 => (k_Fi_hurt o7.1 l1 ((5 : Int32))).bind fun o8 => some (o8.1, (x.1, x.2.1, x.2.2.1, x.2.2.2.1, ((o8.2, o7.2.1, o7.2.2), x.2.2.2.2.1.2.1, x.2.2.2.2.1.2.2.1, x.2.2.2.2.1.2.2.2), o6, x.2.2.2.2.2.2)) else (k_EL_refuse x l2).bind fun o9 => some (o9.1, o9.2))
set_option maxRecDepth 20000 in
theorem w_EL_strike_36 {X : zX} {c : zY} {q : Nat → Nat} {l1 : Int32} {out : Int32 × zsX} (hX : Ok X zr_EL zb_EL_strike 3 6 c) (hR : Rt X (some .int) (some (.int out.1)) (zwX c q out.2)) : ∀ (l2 : Int32) (x : zsX), k_EL_strike_36 l1 l2 x = some out → Go X (zwX c q x) [(0, .ref ((q 17))), (1, .int l1), (2, .int l2)] 36 [] := by
  intro l2 x h
  rw [k_EL_strike_36] at h
  refine g_iload_n (pc := 36) hX d_EL_strike_36 rfl 2 rfl ?_
  refine g_if_eq (pc := 37) (tgt := 46) hX d_EL_strike_37 (by decide) h (fun c5 h => ?_) (fun c5 h => ?_)
  · refine g_aload_n (pc := 46) hX d_EL_strike_46 rfl 0 rfl ?_
    refine gf_EL_22 (pc := 47) (v := .ref ((q 24))) hX 3 rfl rfl d_EL_strike_47 ?_
    refine g_aload_n (pc := 50) hX d_EL_strike_50 rfl 0 rfl ?_
    refine gf_EL_10 (pc := 51) (v := .ref ((q 12))) hX 3 rfl rfl d_EL_strike_51 ?_
    obtain ⟨o6, e6, h⟩ := zbind h
    refine g_cvV (pc := 54) (st := []) (w' := (zwX c q ((x.1, x.2.1, x.2.2.1, x.2.2.2.1, x.2.2.2.2.1, o6, x.2.2.2.2.2.2)))) hX zk_Ch_keep zs_Ch_keep zL_EL_69 (c_Ch_keep c q x.2.2.2.2.1 x.2.2.2.2.2.1 e6) rfl rfl rfl rfl (sp_KN c q x) (sq_KN c q x o6) 24 0 rfl rfl rfl d_EL_strike_54 ?_
    refine g_aload_n (pc := 57) hX d_EL_strike_57 rfl 0 rfl ?_
    refine gf_EL_10 (pc := 58) (v := .ref ((q 12))) hX 3 rfl rfl d_EL_strike_58 ?_
    refine gf_EL_97 (pc := 61) (v := .ref ((q 9))) hX 19 rfl rfl d_EL_strike_61 ?_
    refine g_iload_n (pc := 64) hX d_EL_strike_64 rfl 1 rfl ?_
    obtain ⟨o7, e7, h⟩ := zbind h
    refine g_cvV (pc := 65)  (st := []) (w' := (zwX c q ((x.1, x.2.1, x.2.2.1, x.2.2.2.1, (o7, x.2.2.2.2.1.2.1, x.2.2.2.2.1.2.2.1, x.2.2.2.2.1.2.2.2), o6, x.2.2.2.2.2.2)))) hX zk_En_act zs_En_act zL_EL_161 (c_En_act c q x.2.2.2.2.1.1 l1 e7) rfl rfl rfl rfl (sp_EL_En_7 c q ((x.1, x.2.1, x.2.2.1, x.2.2.2.1, x.2.2.2.2.1, o6, x.2.2.2.2.2.2))) (sq_EL_En_7 c q ((x.1, x.2.1, x.2.2.1, x.2.2.2.1, x.2.2.2.2.1, o6, x.2.2.2.2.2.2)) o7) 16 2 rfl rfl rfl d_EL_strike_65 ?_
    refine g_aload_n (pc := 68) hX d_EL_strike_68 rfl 0 rfl ?_
    refine gf_EL_10 (pc := 69) (v := .ref ((q 12))) hX 3 rfl rfl d_EL_strike_69 ?_
    refine gf_EL_59 (pc := 72) (v := .ref ((q 6))) hX 19 rfl rfl d_EL_strike_72 ?_
    refine g_iload_n (pc := 75) hX d_EL_strike_75 rfl 1 rfl ?_
    refine g_iconst (pc := 76) hX d_EL_strike_76 zc_5 ?_
    obtain ⟨o8, e8, h⟩ := zbind h
    refine g_cvI (pc := 77)  (st := []) (w' := (zwX c q ((x.1, x.2.1, x.2.2.1, x.2.2.2.1, ((o8.2, o7.2.1, o7.2.2), x.2.2.2.2.1.2.1, x.2.2.2.2.1.2.2.1, x.2.2.2.2.1.2.2.2), o6, x.2.2.2.2.2.2)))) hX zk_Fi_hurt zs_Fi_hurt zL_EL_164 (c_Fi_hurt c q o7.1 l1 ((5 : Int32)) e8) rfl rfl rfl rfl (sp_EL_Fi_7 c q ((x.1, x.2.1, x.2.2.1, x.2.2.2.1, (o7, x.2.2.2.2.1.2.1, x.2.2.2.2.1.2.2.1, x.2.2.2.2.1.2.2.2), o6, x.2.2.2.2.2.2))) (sq_EL_Fi_7 c q ((x.1, x.2.1, x.2.2.1, x.2.2.2.1, (o7, x.2.2.2.2.1.2.1, x.2.2.2.2.1.2.2.1, x.2.2.2.2.1.2.2.2), o6, x.2.2.2.2.2.2)) o8.2) 13 3 rfl rfl rfl d_EL_strike_77 ?_
    obtain rfl := Option.some.inj h
    exact g_iret (pc := 80) hX hR d_EL_strike_80
  · refine g_aload_n (pc := 40) hX d_EL_strike_40 rfl 0 rfl ?_
    refine g_iload_n (pc := 41) hX d_EL_strike_41 rfl 2 rfl ?_
    obtain ⟨o9, e9, h⟩ := zbind h
    refine g_cvI (pc := 42) (w1 := []) (w2 := []) (st := []) (w' := (zwX c q o9.2)) hX zk_EL_refuse zs_EL_refuse zL_EL_55 (c_EL_refuse c q x l2 e9) rfl rfl rfl rfl (zself _) (zself _).symm 3 9 rfl rfl rfl d_EL_strike_42 ?_
    obtain rfl := Option.some.inj h
    exact g_iret (pc := 45) hX hR d_EL_strike_45
def k_EL_strike (x : zsX) (l1 : Int32) : Option (Int32 × zsX) := (k_Fi_has x.2.2.2.2.1.1.1 l1).bind fun o1 => (if o1 = 0 then some ((-1 : Int32), x) else (k_EL_whyNoAct x).bind fun o3 => (if o3 = 0 then (k_EL_canBeStruck x l1).bind fun o10 => (if o10 = 0 then k_EL_strike_36 l1 ((7 : Int32)) x else k_EL_strike_36 l1 o3 x) else k_EL_strike_36 l1 o3 x))
set_option maxRecDepth 20000 in
theorem c_EL_strike (c : zY) (q : Nat → Nat) (x : zsX) (l1 : Int32) {out : Int32 × zsX} (h : k_EL_strike x l1 = some out) : KM zy_EL_strike zb_EL_strike 3 (some .int) 6 c [.ref ((q 17)), .int l1] (zwX c q x) (zwX c q out.2) (some (.int out.1)) := zK_of zp_EL rfl (Nat.le_of_ble_eq_true rfl) (zq_EL c q _ _) (fun X hX hR => by
  show Go X (zwX c q x) [(0, .ref ((q 17))), (1, .int l1)] 0 []
  rw [k_EL_strike] at h
  refine g_aload_n (pc := 0) hX d_EL_strike_0 rfl 0 rfl ?_
  refine gf_EL_10 (pc := 1) (v := .ref ((q 12))) hX 3 rfl rfl d_EL_strike_1 ?_
  refine gf_EL_59 (pc := 4) (v := .ref ((q 6))) hX 19 rfl rfl d_EL_strike_4 ?_
  refine g_iload_n (pc := 7) hX d_EL_strike_7 rfl 1 rfl ?_
  obtain ⟨o1, e1, h⟩ := zbind h
  refine g_cvI (pc := 8)  (st := []) (w' := (zwX c q x)) hX zk_Fi_has zs_Fi_has zL_EL_94 (c_Fi_has c q x.2.2.2.2.1.1.1 l1 e1) rfl rfl rfl rfl (sp_EL_Fi_7 c q x) (sp_EL_Fi_7 c q x).symm 13 3 rfl rfl rfl d_EL_strike_8 ?_
  refine g_if_ne (pc := 11) (tgt := 16) hX d_EL_strike_11 (by decide) h (fun c2 h => ?_) (fun c2 h => ?_)
  · refine g_aload_n (pc := 16) hX d_EL_strike_16 rfl 0 rfl ?_
    obtain ⟨o3, e3, h⟩ := zbind h
    refine g_cvI (pc := 17) (w1 := []) (w2 := []) (st := []) (w' := (zwX c q x)) hX zk_EL_whyNoAct zs_EL_whyNoAct zL_EL_132 (c_EL_whyNoAct c q x e3) rfl rfl rfl rfl (zself _) (zself _).symm 3 9 rfl rfl rfl d_EL_strike_17 ?_
    refine g_istore_n (pc := 20) (L' := [(2, .int o3), (0, .ref ((q 17))), (1, .int l1)]) hX d_EL_strike_20 rfl rfl rfl ?_
    refine g_iload_n (pc := 21) hX d_EL_strike_21 rfl 0 rfl ?_
    refine g_if_ne (pc := 22) (tgt := 36) hX d_EL_strike_22 (by decide) h (fun c4 h => ?_) (fun c4 h => ?_)
    · refine g_ls (L' := [(0, .ref ((q 17))), (1, .int l1), (2, .int o3)]) [1, 2, 0] rfl ?_
      exact w_EL_strike_36 hX hR _ _ h
    · refine g_aload_n (pc := 25) hX d_EL_strike_25 rfl 1 rfl ?_
      refine g_iload_n (pc := 26) hX d_EL_strike_26 rfl 2 rfl ?_
      obtain ⟨o10, e10, h⟩ := zbind h
      refine g_cvI (pc := 27) (w1 := []) (w2 := []) (st := []) (w' := (zwX c q x)) hX zk_EL_canBeStruck zs_EL_canBeStruck zL_EL_158 (c_EL_canBeStruck c q x l1 e10) rfl rfl rfl rfl (zself _) (zself _).symm 3 9 rfl rfl rfl d_EL_strike_27 ?_
      refine g_if_ne (pc := 30) (tgt := 36) hX d_EL_strike_30 (by decide) h (fun c11 h => ?_) (fun c11 h => ?_)
      · refine g_ls (L' := [(0, .ref ((q 17))), (1, .int l1), (2, .int o3)]) [1, 2, 0] rfl ?_
        exact w_EL_strike_36 hX hR _ _ h
      · refine g_bipush (pc := 33) hX d_EL_strike_33 ze_7 ?_
        refine g_istore_n (pc := 35) (L' := [(2, .int ((7 : Int32))), (0, .ref ((q 17))), (1, .int l1)]) hX d_EL_strike_35 rfl rfl rfl ?_
        refine g_ls (L' := [(0, .ref ((q 17))), (1, .int l1), (2, .int ((7 : Int32)))]) [1, 2, 0] rfl ?_
        exact w_EL_strike_36 hX hR _ _ h
  · refine g_iconst (pc := 14) hX d_EL_strike_14 zc_m1 ?_
    obtain rfl := Option.some.inj h
    exact g_iret (pc := 15) hX hR d_EL_strike_15)
theorem d_EL_feed_0 : decode zb_EL_feed 0 = .ok (.iload_n 1, 1) := by decide +kernel
theorem d_EL_feed_1 : decode zb_EL_feed 1 = .ok (.iconst 1, 1) := by decide +kernel
theorem d_EL_feed_2 : decode zb_EL_feed 2 = .ok (.if_icmp .lt 50, 3) := by decide +kernel
theorem d_EL_feed_5 : decode zb_EL_feed 5 = .ok (.iload_n 1, 1) := by decide +kernel
theorem d_EL_feed_6 : decode zb_EL_feed 6 = .ok (.iconst 5, 1) := by decide +kernel
theorem d_EL_feed_7 : decode zb_EL_feed 7 = .ok (.if_icmp .gt 45, 3) := by decide +kernel
theorem d_EL_feed_10 : decode zb_EL_feed 10 = .ok (.iload_n 2, 1) := by decide +kernel
theorem d_EL_feed_11 : decode zb_EL_feed 11 = .ok (.invokestatic 167, 3) := by decide +kernel
theorem d_EL_feed_14 : decode zb_EL_feed 14 = .ok (.ifCond .eq 38, 3) := by decide +kernel
theorem d_EL_feed_17 : decode zb_EL_feed 17 = .ok (.iload_n 3, 1) := by decide +kernel
theorem d_EL_feed_18 : decode zb_EL_feed 18 = .ok (.invokestatic 167, 3) := by decide +kernel
theorem d_EL_feed_21 : decode zb_EL_feed 21 = .ok (.ifCond .eq 31, 3) := by decide +kernel
theorem d_EL_feed_24 : decode zb_EL_feed 24 = .ok (.iload 4, 2) := by decide +kernel
theorem d_EL_feed_26 : decode zb_EL_feed 26 = .ok (.invokestatic 167, 3) := by decide +kernel
theorem d_EL_feed_29 : decode zb_EL_feed 29 = .ok (.ifCond .eq 23, 3) := by decide +kernel
theorem d_EL_feed_32 : decode zb_EL_feed 32 = .ok (.iload 5, 2) := by decide +kernel
theorem d_EL_feed_34 : decode zb_EL_feed 34 = .ok (.invokestatic 167, 3) := by decide +kernel
theorem d_EL_feed_37 : decode zb_EL_feed 37 = .ok (.ifCond .eq 15, 3) := by decide +kernel
theorem d_EL_feed_40 : decode zb_EL_feed 40 = .ok (.iload 6, 2) := by decide +kernel
theorem d_EL_feed_42 : decode zb_EL_feed 42 = .ok (.invokestatic 167, 3) := by decide +kernel
theorem d_EL_feed_45 : decode zb_EL_feed 45 = .ok (.ifCond .eq 7, 3) := by decide +kernel
theorem d_EL_feed_48 : decode zb_EL_feed 48 = .ok (.iconst 1, 1) := by decide +kernel
theorem d_EL_feed_49 : decode zb_EL_feed 49 = .ok (.goto 4, 3) := by decide +kernel
theorem d_EL_feed_52 : decode zb_EL_feed 52 = .ok (.iconst 0, 1) := by decide +kernel
theorem d_EL_feed_53 : decode zb_EL_feed 53 = .ok (.istore 7, 2) := by decide +kernel
theorem d_EL_feed_55 : decode zb_EL_feed 55 = .ok (.iload 7, 2) := by decide +kernel
theorem d_EL_feed_57 : decode zb_EL_feed 57 = .ok (.ifCond .ne 6, 3) := by decide +kernel
theorem d_EL_feed_60 : decode zb_EL_feed 60 = .ok (.bipush (-2), 2) := by decide +kernel
theorem d_EL_feed_62 : decode zb_EL_feed 62 = .ok (.ireturn, 1) := by decide +kernel
theorem d_EL_feed_63 : decode zb_EL_feed 63 = .ok (.aload_n 0, 1) := by decide +kernel
theorem d_EL_feed_64 : decode zb_EL_feed 64 = .ok (.getfield 29, 3) := by decide +kernel
theorem d_EL_feed_67 : decode zb_EL_feed 67 = .ok (.iload_n 1, 1) := by decide +kernel
theorem d_EL_feed_68 : decode zb_EL_feed 68 = .ok (.invokevirtual 170, 3) := by decide +kernel
theorem d_EL_feed_71 : decode zb_EL_feed 71 = .ok (.ifCond .ne 6, 3) := by decide +kernel
theorem d_EL_feed_74 : decode zb_EL_feed 74 = .ok (.bipush (-4), 2) := by decide +kernel
theorem d_EL_feed_76 : decode zb_EL_feed 76 = .ok (.ireturn, 1) := by decide +kernel
theorem d_EL_feed_77 : decode zb_EL_feed 77 = .ok (.iconst 0, 1) := by decide +kernel
theorem d_EL_feed_78 : decode zb_EL_feed 78 = .ok (.istore 8, 2) := by decide +kernel
theorem d_EL_feed_80 : decode zb_EL_feed 80 = .ok (.iload 8, 2) := by decide +kernel
theorem d_EL_feed_82 : decode zb_EL_feed 82 = .ok (.iload_n 1, 1) := by decide +kernel
theorem d_EL_feed_83 : decode zb_EL_feed 83 = .ok (.if_icmp .ge 59, 3) := by decide +kernel
theorem d_EL_feed_86 : decode zb_EL_feed 86 = .ok (.aload_n 0, 1) := by decide +kernel
theorem d_EL_feed_87 : decode zb_EL_feed 87 = .ok (.getfield 29, 3) := by decide +kernel
theorem d_EL_feed_90 : decode zb_EL_feed 90 = .ok (.iload 8, 2) := by decide +kernel
theorem d_EL_feed_92 : decode zb_EL_feed 92 = .ok (.ifCond .ne 7, 3) := by decide +kernel
theorem d_EL_feed_95 : decode zb_EL_feed 95 = .ok (.iload_n 2, 1) := by decide +kernel
theorem d_EL_feed_96 : decode zb_EL_feed 96 = .ok (.goto 37, 3) := by decide +kernel
theorem d_EL_feed_99 : decode zb_EL_feed 99 = .ok (.iload 8, 2) := by decide +kernel
theorem d_EL_feed_101 : decode zb_EL_feed 101 = .ok (.iconst 1, 1) := by decide +kernel
theorem d_EL_feed_102 : decode zb_EL_feed 102 = .ok (.if_icmp .ne 7, 3) := by decide +kernel
theorem d_EL_feed_105 : decode zb_EL_feed 105 = .ok (.iload_n 3, 1) := by decide +kernel
theorem d_EL_feed_106 : decode zb_EL_feed 106 = .ok (.goto 27, 3) := by decide +kernel
theorem d_EL_feed_109 : decode zb_EL_feed 109 = .ok (.iload 8, 2) := by decide +kernel
theorem d_EL_feed_111 : decode zb_EL_feed 111 = .ok (.iconst 2, 1) := by decide +kernel
theorem d_EL_feed_112 : decode zb_EL_feed 112 = .ok (.if_icmp .ne 8, 3) := by decide +kernel
theorem d_EL_feed_115 : decode zb_EL_feed 115 = .ok (.iload 4, 2) := by decide +kernel
theorem d_EL_feed_117 : decode zb_EL_feed 117 = .ok (.goto 16, 3) := by decide +kernel
theorem d_EL_feed_120 : decode zb_EL_feed 120 = .ok (.iload 8, 2) := by decide +kernel
theorem d_EL_feed_122 : decode zb_EL_feed 122 = .ok (.iconst 3, 1) := by decide +kernel
theorem d_EL_feed_123 : decode zb_EL_feed 123 = .ok (.if_icmp .ne 8, 3) := by decide +kernel
theorem d_EL_feed_126 : decode zb_EL_feed 126 = .ok (.iload 5, 2) := by decide +kernel
theorem d_EL_feed_128 : decode zb_EL_feed 128 = .ok (.goto 5, 3) := by decide +kernel
theorem d_EL_feed_131 : decode zb_EL_feed 131 = .ok (.iload 6, 2) := by decide +kernel
theorem d_EL_feed_133 : decode zb_EL_feed 133 = .ok (.invokevirtual 173, 3) := by decide +kernel
theorem d_EL_feed_136 : decode zb_EL_feed 136 = .ok (.iinc 8 1, 3) := by decide +kernel
theorem d_EL_feed_139 : decode zb_EL_feed 139 = .ok (.goto (-59), 3) := by decide +kernel
theorem d_EL_feed_142 : decode zb_EL_feed 142 = .ok (.aload_n 0, 1) := by decide +kernel
theorem d_EL_feed_143 : decode zb_EL_feed 143 = .ok (.getfield 29, 3) := by decide +kernel
theorem d_EL_feed_146 : decode zb_EL_feed 146 = .ok (.getfield 176, 3) := by decide +kernel
theorem d_EL_feed_149 : decode zb_EL_feed 149 = .ok (.ireturn, 1) := by decide +kernel
def k_EL_feed_80 (l1 : Int32) (l2 : Int32) (l3 : Int32) (l4 : Int32) (l5 : Int32) (l6 : Int32) : Nat → Int32 → zsX → Option (Int32 × zsX)
  | 0, _, _ => none
  | fu + 1, l8, x => (if l8 < l1 then (if l8 = 0 then (k_Tp_append x.1 l2).bind fun o14 => k_EL_feed_80 l1 l2 l3 l4 l5 l6 fu ((l8 + (1 : Int32))) ((o14, x.2.1, x.2.2.1, x.2.2.2.1, x.2.2.2.2.1, x.2.2.2.2.2.1, x.2.2.2.2.2.2)) else (if l8 = (1 : Int32) then (k_Tp_append x.1 l3).bind fun o13 => k_EL_feed_80 l1 l2 l3 l4 l5 l6 fu ((l8 + (1 : Int32))) ((o13, x.2.1, x.2.2.1, x.2.2.2.1, x.2.2.2.2.1, x.2.2.2.2.2.1, x.2.2.2.2.2.2)) else (if l8 = (2 : Int32) then (k_Tp_append x.1 l4).bind fun o12 => k_EL_feed_80 l1 l2 l3 l4 l5 l6 fu ((l8 + (1 : Int32))) ((o12, x.2.1, x.2.2.1, x.2.2.2.1, x.2.2.2.2.1, x.2.2.2.2.2.1, x.2.2.2.2.2.2)) else (if l8 = (3 : Int32) then (k_Tp_append x.1 l5).bind fun o11 => k_EL_feed_80 l1 l2 l3 l4 l5 l6 fu ((l8 + (1 : Int32))) ((o11, x.2.1, x.2.2.1, x.2.2.2.1, x.2.2.2.2.1, x.2.2.2.2.2.1, x.2.2.2.2.2.2)) else (k_Tp_append x.1 l6).bind fun o10 => k_EL_feed_80 l1 l2 l3 l4 l5 l6 fu ((l8 + (1 : Int32))) ((o10, x.2.1, x.2.2.1, x.2.2.2.1, x.2.2.2.2.1, x.2.2.2.2.2.1, x.2.2.2.2.2.2)))))) else some (x.1.2.2.1, x))
set_option maxRecDepth 20000 in
theorem w_EL_feed_80 {X : zX} {c : zY} {q : Nat → Nat} {l1 : Int32} {l2 : Int32} {l3 : Int32} {l4 : Int32} {l5 : Int32} {l6 : Int32} {out : Int32 × zsX} (hX : Ok X zr_EL zb_EL_feed 9 1 c) (hR : Rt X (some .int) (some (.int out.1)) (zwX c q out.2)) : ∀ (fu : Nat) (l8 : Int32) (x : zsX), k_EL_feed_80 l1 l2 l3 l4 l5 l6 fu l8 x = some out → Go X (zwX c q x) [(0, .ref ((q 17))), (1, .int l1), (2, .int l2), (3, .int l3), (4, .int l4), (5, .int l5), (6, .int l6), (8, .int l8)] 80 [] := by
  intro fu
  induction fu with
  | zero => intro l8 x h; rw [k_EL_feed_80] at h; cases h
  | succ fu ih =>
    intro l8 x h
    rw [k_EL_feed_80] at h
    refine g_iload (pc := 80) hX d_EL_feed_80 7 rfl ?_
    refine g_iload_n (pc := 82) hX d_EL_feed_82 rfl 1 rfl ?_
    refine g_icmp_ge (pc := 83) (tgt := 142) hX d_EL_feed_83 (by decide) h (fun c5 h => ?_) (fun c5 h => ?_)
    · refine g_aload_n (pc := 142) hX d_EL_feed_142 rfl 0 rfl ?_
      refine gf_EL_29 (pc := 143) (v := .ref ((q 18))) hX 3 rfl rfl d_EL_feed_143 ?_
      refine gf_EL_176 (pc := 146) (v := .int x.1.2.2.1) hX 0 rfl rfl d_EL_feed_146 ?_
      obtain rfl := Option.some.inj h
      exact g_iret (pc := 149) hX hR d_EL_feed_149
    · refine g_aload_n (pc := 86) hX d_EL_feed_86 rfl 0 rfl ?_
      refine gf_EL_29 (pc := 87) (v := .ref ((q 18))) hX 3 rfl rfl d_EL_feed_87 ?_
      refine g_iload (pc := 90) hX d_EL_feed_90 7 rfl ?_
      refine g_if_ne (pc := 92) (tgt := 99) hX d_EL_feed_92 (by decide) h (fun c6 h => ?_) (fun c6 h => ?_)
      · refine g_iload (pc := 99) hX d_EL_feed_99 7 rfl ?_
        refine g_iconst (pc := 101) hX d_EL_feed_101 zc_1 ?_
        refine g_icmp_ne (pc := 102) (tgt := 109) hX d_EL_feed_102 (by decide) h (fun c7 h => ?_) (fun c7 h => ?_)
        · refine g_iload (pc := 109) hX d_EL_feed_109 7 rfl ?_
          refine g_iconst (pc := 111) hX d_EL_feed_111 zc_2 ?_
          refine g_icmp_ne (pc := 112) (tgt := 120) hX d_EL_feed_112 (by decide) h (fun c8 h => ?_) (fun c8 h => ?_)
          · refine g_iload (pc := 120) hX d_EL_feed_120 7 rfl ?_
            refine g_iconst (pc := 122) hX d_EL_feed_122 zc_3 ?_
            refine g_icmp_ne (pc := 123) (tgt := 131) hX d_EL_feed_123 (by decide) h (fun c9 h => ?_) (fun c9 h => ?_)
            · refine g_iload (pc := 131) hX d_EL_feed_131 6 rfl ?_
              obtain ⟨o10, e10, h⟩ := zbind h
              refine g_cvV (pc := 133)  (st := []) (w' := (zwX c q ((o10, x.2.1, x.2.2.1, x.2.2.2.1, x.2.2.2.2.1, x.2.2.2.2.2.1, x.2.2.2.2.2.2)))) hX zk_Tp_append zs_Tp_append zL_EL_173 (c_Tp_append c (q 18) (q 19) (q 20) x.1 l6 e10) rfl rfl rfl rfl (sp_EL_Tp_0 c q x) (sq_EL_Tp_0 c q x o10) 0 7 rfl rfl rfl d_EL_feed_133 ?_
              refine g_iinc (pc := 136) (q := 7) (L' := [(8, .int ((l8 + (1 : Int32)))), (0, .ref ((q 17))), (1, .int l1), (2, .int l2), (3, .int l3), (4, .int l4), (5, .int l5), (6, .int l6)]) hX d_EL_feed_136 rfl zc_1 rfl rfl ?_
              refine g_goto (pc := 139) (tgt := 80) hX d_EL_feed_139 (by decide) ?_
              refine g_ls (L' := [(0, .ref ((q 17))), (1, .int l1), (2, .int l2), (3, .int l3), (4, .int l4), (5, .int l5), (6, .int l6), (8, .int ((l8 + (1 : Int32))))]) [1, 2, 3, 4, 5, 6, 7, 0] rfl ?_
              exact ih _ _ h
            · refine g_iload (pc := 126) hX d_EL_feed_126 5 rfl ?_
              refine g_goto (pc := 128) (tgt := 133) hX d_EL_feed_128 (by decide) ?_
              obtain ⟨o11, e11, h⟩ := zbind h
              refine g_cvV (pc := 133)  (st := []) (w' := (zwX c q ((o11, x.2.1, x.2.2.1, x.2.2.2.1, x.2.2.2.2.1, x.2.2.2.2.2.1, x.2.2.2.2.2.2)))) hX zk_Tp_append zs_Tp_append zL_EL_173 (c_Tp_append c (q 18) (q 19) (q 20) x.1 l5 e11) rfl rfl rfl rfl (sp_EL_Tp_0 c q x) (sq_EL_Tp_0 c q x o11) 0 7 rfl rfl rfl d_EL_feed_133 ?_
              refine g_iinc (pc := 136) (q := 7) (L' := [(8, .int ((l8 + (1 : Int32)))), (0, .ref ((q 17))), (1, .int l1), (2, .int l2), (3, .int l3), (4, .int l4), (5, .int l5), (6, .int l6)]) hX d_EL_feed_136 rfl zc_1 rfl rfl ?_
              refine g_goto (pc := 139) (tgt := 80) hX d_EL_feed_139 (by decide) ?_
              refine g_ls (L' := [(0, .ref ((q 17))), (1, .int l1), (2, .int l2), (3, .int l3), (4, .int l4), (5, .int l5), (6, .int l6), (8, .int ((l8 + (1 : Int32))))]) [1, 2, 3, 4, 5, 6, 7, 0] rfl ?_
              exact ih _ _ h
          · refine g_iload (pc := 115) hX d_EL_feed_115 4 rfl ?_
            refine g_goto (pc := 117) (tgt := 133) hX d_EL_feed_117 (by decide) ?_
            obtain ⟨o12, e12, h⟩ := zbind h
            refine g_cvV (pc := 133)  (st := []) (w' := (zwX c q ((o12, x.2.1, x.2.2.1, x.2.2.2.1, x.2.2.2.2.1, x.2.2.2.2.2.1, x.2.2.2.2.2.2)))) hX zk_Tp_append zs_Tp_append zL_EL_173 (c_Tp_append c (q 18) (q 19) (q 20) x.1 l4 e12) rfl rfl rfl rfl (sp_EL_Tp_0 c q x) (sq_EL_Tp_0 c q x o12) 0 7 rfl rfl rfl d_EL_feed_133 ?_
            refine g_iinc (pc := 136) (q := 7) (L' := [(8, .int ((l8 + (1 : Int32)))), (0, .ref ((q 17))), (1, .int l1), (2, .int l2), (3, .int l3), (4, .int l4), (5, .int l5), (6, .int l6)]) hX d_EL_feed_136 rfl zc_1 rfl rfl ?_
            refine g_goto (pc := 139) (tgt := 80) hX d_EL_feed_139 (by decide) ?_
            refine g_ls (L' := [(0, .ref ((q 17))), (1, .int l1), (2, .int l2), (3, .int l3), (4, .int l4), (5, .int l5), (6, .int l6), (8, .int ((l8 + (1 : Int32))))]) [1, 2, 3, 4, 5, 6, 7, 0] rfl ?_
            exact ih _ _ h
        · refine g_iload_n (pc := 105) hX d_EL_feed_105 rfl 3 rfl ?_
          refine g_goto (pc := 106) (tgt := 133) hX d_EL_feed_106 (by decide) ?_
          obtain ⟨o13, e13, h⟩ := zbind h
          refine g_cvV (pc := 133)  (st := []) (w' := (zwX c q ((o13, x.2.1, x.2.2.1, x.2.2.2.1, x.2.2.2.2.1, x.2.2.2.2.2.1, x.2.2.2.2.2.2)))) hX zk_Tp_append zs_Tp_append zL_EL_173 (c_Tp_append c (q 18) (q 19) (q 20) x.1 l3 e13) rfl rfl rfl rfl (sp_EL_Tp_0 c q x) (sq_EL_Tp_0 c q x o13) 0 7 rfl rfl rfl d_EL_feed_133 ?_
          refine g_iinc (pc := 136) (q := 7) (L' := [(8, .int ((l8 + (1 : Int32)))), (0, .ref ((q 17))), (1, .int l1), (2, .int l2), (3, .int l3), (4, .int l4), (5, .int l5), (6, .int l6)]) hX d_EL_feed_136 rfl zc_1 rfl rfl ?_
          refine g_goto (pc := 139) (tgt := 80) hX d_EL_feed_139 (by decide) ?_
          refine g_ls (L' := [(0, .ref ((q 17))), (1, .int l1), (2, .int l2), (3, .int l3), (4, .int l4), (5, .int l5), (6, .int l6), (8, .int ((l8 + (1 : Int32))))]) [1, 2, 3, 4, 5, 6, 7, 0] rfl ?_
          exact ih _ _ h
      · refine g_iload_n (pc := 95) hX d_EL_feed_95 rfl 2 rfl ?_
        refine g_goto (pc := 96) (tgt := 133) hX d_EL_feed_96 (by decide) ?_
        obtain ⟨o14, e14, h⟩ := zbind h
        refine g_cvV (pc := 133)  (st := []) (w' := (zwX c q ((o14, x.2.1, x.2.2.1, x.2.2.2.1, x.2.2.2.2.1, x.2.2.2.2.2.1, x.2.2.2.2.2.2)))) hX zk_Tp_append zs_Tp_append zL_EL_173 (c_Tp_append c (q 18) (q 19) (q 20) x.1 l2 e14) rfl rfl rfl rfl (sp_EL_Tp_0 c q x) (sq_EL_Tp_0 c q x o14) 0 7 rfl rfl rfl d_EL_feed_133 ?_
        refine g_iinc (pc := 136) (q := 7) (L' := [(8, .int ((l8 + (1 : Int32)))), (0, .ref ((q 17))), (1, .int l1), (2, .int l2), (3, .int l3), (4, .int l4), (5, .int l5), (6, .int l6)]) hX d_EL_feed_136 rfl zc_1 rfl rfl ?_
        refine g_goto (pc := 139) (tgt := 80) hX d_EL_feed_139 (by decide) ?_
        refine g_ls (L' := [(0, .ref ((q 17))), (1, .int l1), (2, .int l2), (3, .int l3), (4, .int l4), (5, .int l5), (6, .int l6), (8, .int ((l8 + (1 : Int32))))]) [1, 2, 3, 4, 5, 6, 7, 0] rfl ?_
        exact ih _ _ h
def k_EL_feed_53 (l1 : Int32) (l2 : Int32) (l3 : Int32) (l4 : Int32) (l5 : Int32) (l6 : Int32) (s0 : Int32) (x : zsX) : Option (Int32 × zsX) := (if s0 = 0 then some ((-2 : Int32), x) else (k_Tp_hasRoomFor x.1 l1).bind fun o3 => (if o3 = 0 then some ((-4 : Int32), x) else k_EL_feed_80 l1 l2 l3 l4 l5 l6 zFu ((0 : Int32)) x))
set_option maxRecDepth 20000 in
theorem w_EL_feed_53 {X : zX} {c : zY} {q : Nat → Nat} {l1 : Int32} {l2 : Int32} {l3 : Int32} {l4 : Int32} {l5 : Int32} {l6 : Int32} {out : Int32 × zsX} (hX : Ok X zr_EL zb_EL_feed 9 1 c) (hR : Rt X (some .int) (some (.int out.1)) (zwX c q out.2)) : ∀ (s0 : Int32) (x : zsX), k_EL_feed_53 l1 l2 l3 l4 l5 l6 s0 x = some out → Go X (zwX c q x) [(0, .ref ((q 17))), (1, .int l1), (2, .int l2), (3, .int l3), (4, .int l4), (5, .int l5), (6, .int l6)] 53 [.int s0] := by
  intro s0 x h
  rw [k_EL_feed_53] at h
  refine g_istore (pc := 53) (L' := [(7, .int s0), (0, .ref ((q 17))), (1, .int l1), (2, .int l2), (3, .int l3), (4, .int l4), (5, .int l5), (6, .int l6)]) hX d_EL_feed_53 rfl rfl ?_
  refine g_iload (pc := 55) hX d_EL_feed_55 0 rfl ?_
  refine g_if_ne (pc := 57) (tgt := 63) hX d_EL_feed_57 (by decide) h (fun c2 h => ?_) (fun c2 h => ?_)
  · refine g_aload_n (pc := 63) hX d_EL_feed_63 rfl 1 rfl ?_
    refine gf_EL_29 (pc := 64) (v := .ref ((q 18))) hX 3 rfl rfl d_EL_feed_64 ?_
    refine g_iload_n (pc := 67) hX d_EL_feed_67 rfl 2 rfl ?_
    obtain ⟨o3, e3, h⟩ := zbind h
    refine g_cvI (pc := 68)  (st := []) (w' := (zwX c q x)) hX zk_Tp_hasRoomFor zs_Tp_hasRoomFor zL_EL_170 (c_Tp_hasRoomFor c (q 18) (q 19) (q 20) x.1 l1 e3) rfl rfl rfl rfl (sp_EL_Tp_0 c q x) (sp_EL_Tp_0 c q x).symm 0 7 rfl rfl rfl d_EL_feed_68 ?_
    refine g_if_ne (pc := 71) (tgt := 77) hX d_EL_feed_71 (by decide) h (fun c4 h => ?_) (fun c4 h => ?_)
    · refine g_iconst (pc := 77) hX d_EL_feed_77 zc_0 ?_
      refine g_istore (pc := 78) (L' := [(8, .int ((0 : Int32))), (7, .int s0), (0, .ref ((q 17))), (1, .int l1), (2, .int l2), (3, .int l3), (4, .int l4), (5, .int l5), (6, .int l6)]) hX d_EL_feed_78 rfl rfl ?_
      refine g_ls (L' := [(0, .ref ((q 17))), (1, .int l1), (2, .int l2), (3, .int l3), (4, .int l4), (5, .int l5), (6, .int l6), (8, .int ((0 : Int32)))]) [2, 3, 4, 5, 6, 7, 8, 0] rfl ?_
      exact w_EL_feed_80 hX hR _ _ _ h
    · refine g_bipush (pc := 74) hX d_EL_feed_74 ze_m4 ?_
      obtain rfl := Option.some.inj h
      exact g_iret (pc := 76) hX hR d_EL_feed_76
  · refine g_bipush (pc := 60) hX d_EL_feed_60 ze_m2 ?_
    obtain rfl := Option.some.inj h
    exact g_iret (pc := 62) hX hR d_EL_feed_62
def k_EL_feed (x : zsX) (l1 : Int32) (l2 : Int32) (l3 : Int32) (l4 : Int32) (l5 : Int32) (l6 : Int32) : Option (Int32 × zsX) := (if l1 < (1 : Int32) then k_EL_feed_53 l1 l2 l3 l4 l5 l6 ((0 : Int32)) x else (if (5 : Int32) < l1 then k_EL_feed_53 l1 l2 l3 l4 l5 l6 ((0 : Int32)) x else (k_EL_isByte l2).bind fun o16 => (if o16 = 0 then k_EL_feed_53 l1 l2 l3 l4 l5 l6 ((0 : Int32)) x else (k_EL_isByte l3).bind fun o18 => (if o18 = 0 then k_EL_feed_53 l1 l2 l3 l4 l5 l6 ((0 : Int32)) x else (k_EL_isByte l4).bind fun o20 => (if o20 = 0 then k_EL_feed_53 l1 l2 l3 l4 l5 l6 ((0 : Int32)) x else (k_EL_isByte l5).bind fun o22 => (if o22 = 0 then k_EL_feed_53 l1 l2 l3 l4 l5 l6 ((0 : Int32)) x else (k_EL_isByte l6).bind fun o24 => (if o24 = 0 then k_EL_feed_53 l1 l2 l3 l4 l5 l6 ((0 : Int32)) x else k_EL_feed_53 l1 l2 l3 l4 l5 l6 ((1 : Int32)) x)))))))
set_option maxRecDepth 20000 in
theorem c_EL_feed (c : zY) (q : Nat → Nat) (x : zsX) (l1 : Int32) (l2 : Int32) (l3 : Int32) (l4 : Int32) (l5 : Int32) (l6 : Int32) {out : Int32 × zsX} (h : k_EL_feed x l1 l2 l3 l4 l5 l6 = some out) : KM zy_EL_feed zb_EL_feed 9 (some .int) 1 c [.ref ((q 17)), .int l1, .int l2, .int l3, .int l4, .int l5, .int l6] (zwX c q x) (zwX c q out.2) (some (.int out.1)) := zK_of zp_EL rfl (Nat.le_of_ble_eq_true rfl) (zq_EL c q _ _) (fun X hX hR => by
  show Go X (zwX c q x) [(0, .ref ((q 17))), (1, .int l1), (2, .int l2), (3, .int l3), (4, .int l4), (5, .int l5), (6, .int l6)] 0 []
  rw [k_EL_feed] at h
  refine g_iload_n (pc := 0) hX d_EL_feed_0 rfl 1 rfl ?_
  refine g_iconst (pc := 1) hX d_EL_feed_1 zc_1 ?_
  refine g_icmp_lt (pc := 2) (tgt := 52) hX d_EL_feed_2 (by decide) h (fun c1 h => ?_) (fun c1 h => ?_)
  · refine g_iconst (pc := 52) hX d_EL_feed_52 zc_0 ?_
    exact w_EL_feed_53 hX hR _ _ h
  · refine g_iload_n (pc := 5) hX d_EL_feed_5 rfl 1 rfl ?_
    refine g_iconst (pc := 6) hX d_EL_feed_6 zc_5 ?_
    refine g_icmp_gt (pc := 7) (tgt := 52) hX d_EL_feed_7 (by decide) h (fun c15 h => ?_) (fun c15 h => ?_)
    · refine g_iconst (pc := 52) hX d_EL_feed_52 zc_0 ?_
      exact w_EL_feed_53 hX hR _ _ h
    · refine g_iload_n (pc := 10) hX d_EL_feed_10 rfl 2 rfl ?_
      obtain ⟨o16, e16, h⟩ := zbind h
      refine g_csI (pc := 11) (st := []) hX zk_EL_isByte zL_EL_167 (c_EL_isByte c l2 e16) rfl rfl rfl rfl rfl d_EL_feed_11 ?_
      refine g_if_eq (pc := 14) (tgt := 52) hX d_EL_feed_14 (by decide) h (fun c17 h => ?_) (fun c17 h => ?_)
      · refine g_iconst (pc := 52) hX d_EL_feed_52 zc_0 ?_
        exact w_EL_feed_53 hX hR _ _ h
      · refine g_iload_n (pc := 17) hX d_EL_feed_17 rfl 3 rfl ?_
        obtain ⟨o18, e18, h⟩ := zbind h
        refine g_csI (pc := 18) (st := []) hX zk_EL_isByte zL_EL_167 (c_EL_isByte c l3 e18) rfl rfl rfl rfl rfl d_EL_feed_18 ?_
        refine g_if_eq (pc := 21) (tgt := 52) hX d_EL_feed_21 (by decide) h (fun c19 h => ?_) (fun c19 h => ?_)
        · refine g_iconst (pc := 52) hX d_EL_feed_52 zc_0 ?_
          exact w_EL_feed_53 hX hR _ _ h
        · refine g_iload (pc := 24) hX d_EL_feed_24 4 rfl ?_
          obtain ⟨o20, e20, h⟩ := zbind h
          refine g_csI (pc := 26) (st := []) hX zk_EL_isByte zL_EL_167 (c_EL_isByte c l4 e20) rfl rfl rfl rfl rfl d_EL_feed_26 ?_
          refine g_if_eq (pc := 29) (tgt := 52) hX d_EL_feed_29 (by decide) h (fun c21 h => ?_) (fun c21 h => ?_)
          · refine g_iconst (pc := 52) hX d_EL_feed_52 zc_0 ?_
            exact w_EL_feed_53 hX hR _ _ h
          · refine g_iload (pc := 32) hX d_EL_feed_32 5 rfl ?_
            obtain ⟨o22, e22, h⟩ := zbind h
            refine g_csI (pc := 34) (st := []) hX zk_EL_isByte zL_EL_167 (c_EL_isByte c l5 e22) rfl rfl rfl rfl rfl d_EL_feed_34 ?_
            refine g_if_eq (pc := 37) (tgt := 52) hX d_EL_feed_37 (by decide) h (fun c23 h => ?_) (fun c23 h => ?_)
            · refine g_iconst (pc := 52) hX d_EL_feed_52 zc_0 ?_
              exact w_EL_feed_53 hX hR _ _ h
            · refine g_iload (pc := 40) hX d_EL_feed_40 6 rfl ?_
              obtain ⟨o24, e24, h⟩ := zbind h
              refine g_csI (pc := 42) (st := []) hX zk_EL_isByte zL_EL_167 (c_EL_isByte c l6 e24) rfl rfl rfl rfl rfl d_EL_feed_42 ?_
              refine g_if_eq (pc := 45) (tgt := 52) hX d_EL_feed_45 (by decide) h (fun c25 h => ?_) (fun c25 h => ?_)
              · refine g_iconst (pc := 52) hX d_EL_feed_52 zc_0 ?_
                exact w_EL_feed_53 hX hR _ _ h
              · refine g_iconst (pc := 48) hX d_EL_feed_48 zc_1 ?_
                refine g_goto (pc := 49) (tgt := 53) hX d_EL_feed_49 (by decide) ?_
                exact w_EL_feed_53 hX hR _ _ h)
theorem d_EL_power_0 : decode zb_EL_power 0 = .ok (.aload_n 0, 1) := by decide +kernel
theorem d_EL_power_1 : decode zb_EL_power 1 = .ok (.getfield 10, 3) := by decide +kernel
theorem d_EL_power_4 : decode zb_EL_power 4 = .ok (.getfield 179, 3) := by decide +kernel
theorem d_EL_power_7 : decode zb_EL_power 7 = .ok (.iload_n 1, 1) := by decide +kernel
theorem d_EL_power_8 : decode zb_EL_power 8 = .ok (.invokevirtual 182, 3) := by decide +kernel
theorem d_EL_power_11 : decode zb_EL_power 11 = .ok (.ifCond .ne 5, 3) := by decide +kernel
theorem d_EL_power_14 : decode zb_EL_power 14 = .ok (.iconst (-1), 1) := by decide +kernel
theorem d_EL_power_15 : decode zb_EL_power 15 = .ok (.ireturn, 1) := by decide +kernel
theorem d_EL_power_16 : decode zb_EL_power 16 = .ok (.aload_n 0, 1) := by decide +kernel
theorem d_EL_power_17 : decode zb_EL_power 17 = .ok (.getfield 29, 3) := by decide +kernel
theorem d_EL_power_20 : decode zb_EL_power 20 = .ok (.invokevirtual 185, 3) := by decide +kernel
theorem d_EL_power_23 : decode zb_EL_power 23 = .ok (.istore_n 2, 1) := by decide +kernel
theorem d_EL_power_24 : decode zb_EL_power 24 = .ok (.aload_n 0, 1) := by decide +kernel
theorem d_EL_power_25 : decode zb_EL_power 25 = .ok (.getfield 29, 3) := by decide +kernel
theorem d_EL_power_28 : decode zb_EL_power 28 = .ok (.getfield 188, 3) := by decide +kernel
theorem d_EL_power_31 : decode zb_EL_power 31 = .ok (.istore_n 3, 1) := by decide +kernel
theorem d_EL_power_32 : decode zb_EL_power 32 = .ok (.aload_n 0, 1) := by decide +kernel
theorem d_EL_power_33 : decode zb_EL_power 33 = .ok (.getfield 29, 3) := by decide +kernel
theorem d_EL_power_36 : decode zb_EL_power 36 = .ok (.invokevirtual 191, 3) := by decide +kernel
theorem d_EL_power_39 : decode zb_EL_power 39 = .ok (.iload_n 2, 1) := by decide +kernel
theorem d_EL_power_40 : decode zb_EL_power 40 = .ok (.ifCond .ne 8, 3) := by decide +kernel
theorem d_EL_power_43 : decode zb_EL_power 43 = .ok (.bipush (-100), 2) := by decide +kernel
theorem d_EL_power_45 : decode zb_EL_power 45 = .ok (.iload_n 3, 1) := by decide +kernel
theorem d_EL_power_46 : decode zb_EL_power 46 = .ok (.isub, 1) := by decide +kernel
theorem d_EL_power_47 : decode zb_EL_power 47 = .ok (.ireturn, 1) := by decide +kernel
theorem d_EL_power_48 : decode zb_EL_power 48 = .ok (.aload_n 0, 1) := by decide +kernel
theorem d_EL_power_49 : decode zb_EL_power 49 = .ok (.getfield 22, 3) := by decide +kernel
theorem d_EL_power_52 : decode zb_EL_power 52 = .ok (.aload_n 0, 1) := by decide +kernel
theorem d_EL_power_53 : decode zb_EL_power 53 = .ok (.getfield 10, 3) := by decide +kernel
theorem d_EL_power_56 : decode zb_EL_power 56 = .ok (.invokevirtual 69, 3) := by decide +kernel
theorem d_EL_power_59 : decode zb_EL_power 59 = .ok (.iconst 0, 1) := by decide +kernel
theorem d_EL_power_60 : decode zb_EL_power 60 = .ok (.istore 4, 2) := by decide +kernel
theorem d_EL_power_62 : decode zb_EL_power 62 = .ok (.iload 4, 2) := by decide +kernel
theorem d_EL_power_64 : decode zb_EL_power 64 = .ok (.bipush 25, 2) := by decide +kernel
theorem d_EL_power_66 : decode zb_EL_power 66 = .ok (.if_icmp .ge 31, 3) := by decide +kernel
theorem d_EL_power_69 : decode zb_EL_power 69 = .ok (.aload_n 0, 1) := by decide +kernel
theorem d_EL_power_70 : decode zb_EL_power 70 = .ok (.getfield 10, 3) := by decide +kernel
theorem d_EL_power_73 : decode zb_EL_power 73 = .ok (.getfield 179, 3) := by decide +kernel
theorem d_EL_power_76 : decode zb_EL_power 76 = .ok (.iload_n 1, 1) := by decide +kernel
theorem d_EL_power_77 : decode zb_EL_power 77 = .ok (.iload 4, 2) := by decide +kernel
theorem d_EL_power_79 : decode zb_EL_power 79 = .ok (.aload_n 0, 1) := by decide +kernel
theorem d_EL_power_80 : decode zb_EL_power 80 = .ok (.getfield 29, 3) := by decide +kernel
theorem d_EL_power_83 : decode zb_EL_power 83 = .ok (.iload 4, 2) := by decide +kernel
theorem d_EL_power_85 : decode zb_EL_power 85 = .ok (.invokevirtual 194, 3) := by decide +kernel
theorem d_EL_power_88 : decode zb_EL_power 88 = .ok (.invokevirtual 90, 3) := by decide +kernel
theorem d_EL_power_91 : decode zb_EL_power 91 = .ok (.iinc 4 1, 3) := by decide +kernel
theorem d_EL_power_94 : decode zb_EL_power 94 = .ok (.goto (-32), 3) := by decide +kernel
theorem d_EL_power_97 : decode zb_EL_power 97 = .ok (.aload_n 0, 1) := by decide +kernel
theorem d_EL_power_98 : decode zb_EL_power 98 = .ok (.getfield 29, 3) := by decide +kernel
theorem d_EL_power_101 : decode zb_EL_power 101 = .ok (.iconst 2, 1) := by decide +kernel
theorem d_EL_power_102 : decode zb_EL_power 102 = .ok (.invokevirtual 194, 3) := by decide +kernel
theorem d_EL_power_105 : decode zb_EL_power 105 = .ok (.ireturn, 1) := by decide +kernel
def k_EL_power_62 (l1 : Int32) : Nat → Int32 → zsX → Option (Int32 × zsX)
  | 0, _, _ => none
  | fu + 1, l4, x => (if l4 < (25 : Int32) then (k_Tp_part x.1 l4).bind fun o9 => (k_Ta_set 25 100 x.2.2.2.2.1.2.2.1 l1 l4 o9).bind fun o10 => k_EL_power_62 l1 fu ((l4 + (1 : Int32))) ((x.1, x.2.1, x.2.2.1, x.2.2.2.1, (x.2.2.2.2.1.1, x.2.2.2.2.1.2.1, o10, x.2.2.2.2.1.2.2.2), x.2.2.2.2.2.1, x.2.2.2.2.2.2)) else (k_Tp_part x.1 ((2 : Int32))).bind fun o8 => some (o8, x))
set_option maxRecDepth 20000 in
theorem w_EL_power_62 {X : zX} {c : zY} {q : Nat → Nat} {l1 : Int32} {out : Int32 × zsX} (hX : Ok X zr_EL zb_EL_power 5 6 c) (hR : Rt X (some .int) (some (.int out.1)) (zwX c q out.2)) : ∀ (fu : Nat) (l4 : Int32) (x : zsX), k_EL_power_62 l1 fu l4 x = some out → Go X (zwX c q x) [(0, .ref ((q 17))), (1, .int l1), (4, .int l4)] 62 [] := by
  intro fu
  induction fu with
  | zero => intro l4 x h; rw [k_EL_power_62] at h; cases h
  | succ fu ih =>
    intro l4 x h
    rw [k_EL_power_62] at h
    refine g_iload (pc := 62) hX d_EL_power_62 2 rfl ?_
    refine g_bipush (pc := 64) hX d_EL_power_64 ze_25 ?_
    refine g_icmp_ge (pc := 66) (tgt := 97) hX d_EL_power_66 (by decide) h (fun c7 h => ?_) (fun c7 h => ?_)
    · refine g_aload_n (pc := 97) hX d_EL_power_97 rfl 0 rfl ?_
      refine gf_EL_29 (pc := 98) (v := .ref ((q 18))) hX 3 rfl rfl d_EL_power_98 ?_
      refine g_iconst (pc := 101) hX d_EL_power_101 zc_2 ?_
      obtain ⟨o8, e8, h⟩ := zbind h
      refine g_cvI (pc := 102)  (st := []) (w' := (zwX c q x)) hX zk_Tp_part zs_Tp_part zL_EL_194 (c_Tp_part c (q 18) (q 19) (q 20) x.1 ((2 : Int32)) e8) rfl rfl rfl rfl (sp_EL_Tp_0 c q x) (sp_EL_Tp_0 c q x).symm 0 7 rfl rfl rfl d_EL_power_102 ?_
      obtain rfl := Option.some.inj h
      exact g_iret (pc := 105) hX hR d_EL_power_105
    · refine g_aload_n (pc := 69) hX d_EL_power_69 rfl 0 rfl ?_
      refine gf_EL_10 (pc := 70) (v := .ref ((q 12))) hX 3 rfl rfl d_EL_power_70 ?_
      refine gf_EL_179 (pc := 73) (v := .ref ((q 15))) hX 19 rfl rfl d_EL_power_73 ?_
      refine g_iload_n (pc := 76) hX d_EL_power_76 rfl 1 rfl ?_
      refine g_iload (pc := 77) hX d_EL_power_77 2 rfl ?_
      refine g_aload_n (pc := 79) hX d_EL_power_79 rfl 0 rfl ?_
      refine gf_EL_29 (pc := 80) (v := .ref ((q 18))) hX 3 rfl rfl d_EL_power_80 ?_
      refine g_iload (pc := 83) hX d_EL_power_83 2 rfl ?_
      obtain ⟨o9, e9, h⟩ := zbind h
      refine g_cvI (pc := 85)  (st := [.int l4, .int l1, .ref ((q 15))]) (w' := (zwX c q x)) hX zk_Tp_part zs_Tp_part zL_EL_194 (c_Tp_part c (q 18) (q 19) (q 20) x.1 l4 e9) rfl rfl rfl rfl (sp_EL_Tp_0 c q x) (sp_EL_Tp_0 c q x).symm 0 7 rfl rfl rfl d_EL_power_85 ?_
      obtain ⟨o10, e10, h⟩ := zbind h
      refine g_cvV (pc := 88)  (st := []) (w' := (zwX c q ((x.1, x.2.1, x.2.2.1, x.2.2.2.1, (x.2.2.2.2.1.1, x.2.2.2.2.1.2.1, o10, x.2.2.2.2.1.2.2.2), x.2.2.2.2.2.1, x.2.2.2.2.2.2)))) hX zk_Ta_set zs_Ta_set zL_EL_90 (c_Ta_set c (q 15) (q 16) 25 100 x.2.2.2.2.1.2.2.1 l1 l4 o9 e10) rfl rfl rfl rfl (sp_EL_Ta_22 c q x) (sq_EL_Ta_22 c q x o10) 22 6 rfl rfl rfl d_EL_power_88 ?_
      refine g_iinc (pc := 91) (q := 2) (L' := [(4, .int ((l4 + (1 : Int32)))), (0, .ref ((q 17))), (1, .int l1)]) hX d_EL_power_91 rfl zc_1 rfl rfl ?_
      refine g_goto (pc := 94) (tgt := 62) hX d_EL_power_94 (by decide) ?_
      refine g_ls (L' := [(0, .ref ((q 17))), (1, .int l1), (4, .int ((l4 + (1 : Int32))))]) [1, 2, 0] rfl ?_
      exact ih _ _ h
def k_EL_power (x : zsX) (l1 : Int32) : Option (Int32 × zsX) := (k_Ta_holds 25 100 x.2.2.2.2.1.2.2.1 l1).bind fun o1 => (if o1 = 0 then some ((-1 : Int32), x) else (k_Tp_readPower x.1).bind fun o3 => (k_Tp_clear o3.2).bind fun o4 => (if o3.1 = 0 then some (((-100 : Int32) - o3.2.2.2.2), (o4, x.2.1, x.2.2.1, x.2.2.2.1, x.2.2.2.2.1, x.2.2.2.2.2.1, x.2.2.2.2.2.2)) else (k_Ch_keep x.2.2.2.2.1 x.2.2.2.2.2.1).bind fun o6 => k_EL_power_62 l1 zFu ((0 : Int32)) ((o4, x.2.1, x.2.2.1, x.2.2.2.1, x.2.2.2.2.1, o6, x.2.2.2.2.2.2))))
set_option maxRecDepth 20000 in
theorem c_EL_power (c : zY) (q : Nat → Nat) (x : zsX) (l1 : Int32) {out : Int32 × zsX} (h : k_EL_power x l1 = some out) : KM zy_EL_power zb_EL_power 5 (some .int) 6 c [.ref ((q 17)), .int l1] (zwX c q x) (zwX c q out.2) (some (.int out.1)) := zK_of zp_EL rfl (Nat.le_of_ble_eq_true rfl) (zq_EL c q _ _) (fun X hX hR => by
  show Go X (zwX c q x) [(0, .ref ((q 17))), (1, .int l1)] 0 []
  rw [k_EL_power] at h
  refine g_aload_n (pc := 0) hX d_EL_power_0 rfl 0 rfl ?_
  refine gf_EL_10 (pc := 1) (v := .ref ((q 12))) hX 3 rfl rfl d_EL_power_1 ?_
  refine gf_EL_179 (pc := 4) (v := .ref ((q 15))) hX 19 rfl rfl d_EL_power_4 ?_
  refine g_iload_n (pc := 7) hX d_EL_power_7 rfl 1 rfl ?_
  obtain ⟨o1, e1, h⟩ := zbind h
  refine g_cvI (pc := 8)  (st := []) (w' := (zwX c q x)) hX zk_Ta_holds zs_Ta_holds zL_EL_182 (c_Ta_holds c (q 15) (q 16) 25 100 x.2.2.2.2.1.2.2.1 l1 e1) rfl rfl rfl rfl (sp_EL_Ta_22 c q x) (sp_EL_Ta_22 c q x).symm 22 6 rfl rfl rfl d_EL_power_8 ?_
  refine g_if_ne (pc := 11) (tgt := 16) hX d_EL_power_11 (by decide) h (fun c2 h => ?_) (fun c2 h => ?_)
  · refine g_aload_n (pc := 16) hX d_EL_power_16 rfl 0 rfl ?_
    refine gf_EL_29 (pc := 17) (v := .ref ((q 18))) hX 3 rfl rfl d_EL_power_17 ?_
    obtain ⟨o3, e3, h⟩ := zbind h
    refine g_cvI (pc := 20)  (st := []) (w' := (zwX c q ((o3.2, x.2.1, x.2.2.1, x.2.2.2.1, x.2.2.2.2.1, x.2.2.2.2.2.1, x.2.2.2.2.2.2)))) hX zk_Tp_readPower zs_Tp_readPower zL_EL_185 (c_Tp_readPower c (q 18) (q 19) (q 20) x.1 e3) rfl rfl rfl rfl (sp_EL_Tp_0 c q x) (sq_EL_Tp_0 c q x o3.2) 0 7 rfl rfl rfl d_EL_power_20 ?_
    refine g_istore_n (pc := 23) (L' := [(2, .int o3.1), (0, .ref ((q 17))), (1, .int l1)]) hX d_EL_power_23 rfl rfl rfl ?_
    refine g_aload_n (pc := 24) hX d_EL_power_24 rfl 1 rfl ?_
    refine gf_EL_29 (pc := 25) (v := .ref ((q 18))) hX 3 rfl rfl d_EL_power_25 ?_
    refine gf_EL_188 (pc := 28) (v := .int o3.2.2.2.2) hX 0 rfl rfl d_EL_power_28 ?_
    refine g_istore_n (pc := 31) (L' := [(3, .int o3.2.2.2.2), (2, .int o3.1), (0, .ref ((q 17))), (1, .int l1)]) hX d_EL_power_31 rfl rfl rfl ?_
    refine g_aload_n (pc := 32) hX d_EL_power_32 rfl 2 rfl ?_
    refine gf_EL_29 (pc := 33) (v := .ref ((q 18))) hX 3 rfl rfl d_EL_power_33 ?_
    obtain ⟨o4, e4, h⟩ := zbind h
    refine g_cvV (pc := 36)  (st := []) (w' := (zwX c q ((o4, x.2.1, x.2.2.1, x.2.2.2.1, x.2.2.2.2.1, x.2.2.2.2.2.1, x.2.2.2.2.2.2)))) hX zk_Tp_clear zs_Tp_clear zL_EL_191 (c_Tp_clear c (q 18) (q 19) (q 20) o3.2 e4) rfl rfl rfl rfl (sp_EL_Tp_0 c q ((o3.2, x.2.1, x.2.2.1, x.2.2.2.1, x.2.2.2.2.1, x.2.2.2.2.2.1, x.2.2.2.2.2.2))) (sq_EL_Tp_0 c q ((o3.2, x.2.1, x.2.2.1, x.2.2.2.1, x.2.2.2.2.1, x.2.2.2.2.2.1, x.2.2.2.2.2.2)) o4) 0 7 rfl rfl rfl d_EL_power_36 ?_
    refine g_iload_n (pc := 39) hX d_EL_power_39 rfl 1 rfl ?_
    refine g_if_ne (pc := 40) (tgt := 48) hX d_EL_power_40 (by decide) h (fun c5 h => ?_) (fun c5 h => ?_)
    · refine g_aload_n (pc := 48) hX d_EL_power_48 rfl 2 rfl ?_
      refine gf_EL_22 (pc := 49) (v := .ref ((q 24))) hX 3 rfl rfl d_EL_power_49 ?_
      refine g_aload_n (pc := 52) hX d_EL_power_52 rfl 2 rfl ?_
      refine gf_EL_10 (pc := 53) (v := .ref ((q 12))) hX 3 rfl rfl d_EL_power_53 ?_
      obtain ⟨o6, e6, h⟩ := zbind h
      refine g_cvV (pc := 56) (st := []) (w' := (zwX c q ((o4, x.2.1, x.2.2.1, x.2.2.2.1, x.2.2.2.2.1, o6, x.2.2.2.2.2.2)))) hX zk_Ch_keep zs_Ch_keep zL_EL_69 (c_Ch_keep c q x.2.2.2.2.1 x.2.2.2.2.2.1 e6) rfl rfl rfl rfl (sp_KN c q ((o4, x.2.1, x.2.2.1, x.2.2.2.1, x.2.2.2.2.1, x.2.2.2.2.2.1, x.2.2.2.2.2.2))) (sq_KN c q ((o4, x.2.1, x.2.2.1, x.2.2.2.1, x.2.2.2.2.1, x.2.2.2.2.2.1, x.2.2.2.2.2.2)) o6) 24 0 rfl rfl rfl d_EL_power_56 ?_
      refine g_iconst (pc := 59) hX d_EL_power_59 zc_0 ?_
      refine g_istore (pc := 60) (L' := [(4, .int ((0 : Int32))), (3, .int o3.2.2.2.2), (2, .int o3.1), (0, .ref ((q 17))), (1, .int l1)]) hX d_EL_power_60 rfl rfl ?_
      refine g_ls (L' := [(0, .ref ((q 17))), (1, .int l1), (4, .int ((0 : Int32)))]) [3, 4, 0] rfl ?_
      exact w_EL_power_62 hX hR _ _ _ h
    · refine g_bipush (pc := 43) hX d_EL_power_43 ze_m100 ?_
      refine g_iload_n (pc := 45) hX d_EL_power_45 rfl 0 rfl ?_
      refine g_isub (pc := 46) hX d_EL_power_46 ?_
      obtain rfl := Option.some.inj h
      exact g_iret (pc := 47) hX hR d_EL_power_47
  · refine g_iconst (pc := 14) hX d_EL_power_14 zc_m1 ?_
    obtain rfl := Option.some.inj h
    exact g_iret (pc := 15) hX hR d_EL_power_15)
theorem d_EL_whyNoCast_0 : decode zb_EL_whyNoCast 0 = .ok (.aload_n 0, 1) := by decide +kernel
theorem d_EL_whyNoCast_1 : decode zb_EL_whyNoCast 1 = .ok (.invokevirtual 132, 3) := by decide +kernel
theorem d_EL_whyNoCast_4 : decode zb_EL_whyNoCast 4 = .ok (.istore_n 2, 1) := by decide +kernel
theorem d_EL_whyNoCast_5 : decode zb_EL_whyNoCast 5 = .ok (.iload_n 2, 1) := by decide +kernel
theorem d_EL_whyNoCast_6 : decode zb_EL_whyNoCast 6 = .ok (.ifCond .eq 5, 3) := by decide +kernel
theorem d_EL_whyNoCast_9 : decode zb_EL_whyNoCast 9 = .ok (.iload_n 2, 1) := by decide +kernel
theorem d_EL_whyNoCast_10 : decode zb_EL_whyNoCast 10 = .ok (.ireturn, 1) := by decide +kernel
theorem d_EL_whyNoCast_11 : decode zb_EL_whyNoCast 11 = .ok (.aload_n 0, 1) := by decide +kernel
theorem d_EL_whyNoCast_12 : decode zb_EL_whyNoCast 12 = .ok (.getfield 10, 3) := by decide +kernel
theorem d_EL_whyNoCast_15 : decode zb_EL_whyNoCast 15 = .ok (.getfield 179, 3) := by decide +kernel
theorem d_EL_whyNoCast_18 : decode zb_EL_whyNoCast 18 = .ok (.iload_n 1, 1) := by decide +kernel
theorem d_EL_whyNoCast_19 : decode zb_EL_whyNoCast 19 = .ok (.iconst 2, 1) := by decide +kernel
theorem d_EL_whyNoCast_20 : decode zb_EL_whyNoCast 20 = .ok (.invokevirtual 84, 3) := by decide +kernel
theorem d_EL_whyNoCast_23 : decode zb_EL_whyNoCast 23 = .ok (.ifCond .ne 6, 3) := by decide +kernel
theorem d_EL_whyNoCast_26 : decode zb_EL_whyNoCast 26 = .ok (.bipush 8, 2) := by decide +kernel
theorem d_EL_whyNoCast_28 : decode zb_EL_whyNoCast 28 = .ok (.ireturn, 1) := by decide +kernel
theorem d_EL_whyNoCast_29 : decode zb_EL_whyNoCast 29 = .ok (.aload_n 0, 1) := by decide +kernel
theorem d_EL_whyNoCast_30 : decode zb_EL_whyNoCast 30 = .ok (.getfield 10, 3) := by decide +kernel
theorem d_EL_whyNoCast_33 : decode zb_EL_whyNoCast 33 = .ok (.getfield 179, 3) := by decide +kernel
theorem d_EL_whyNoCast_36 : decode zb_EL_whyNoCast 36 = .ok (.iload_n 1, 1) := by decide +kernel
theorem d_EL_whyNoCast_37 : decode zb_EL_whyNoCast 37 = .ok (.iconst 3, 1) := by decide +kernel
theorem d_EL_whyNoCast_38 : decode zb_EL_whyNoCast 38 = .ok (.invokevirtual 84, 3) := by decide +kernel
theorem d_EL_whyNoCast_41 : decode zb_EL_whyNoCast 41 = .ok (.istore_n 3, 1) := by decide +kernel
theorem d_EL_whyNoCast_42 : decode zb_EL_whyNoCast 42 = .ok (.aload_n 0, 1) := by decide +kernel
theorem d_EL_whyNoCast_43 : decode zb_EL_whyNoCast 43 = .ok (.getfield 10, 3) := by decide +kernel
theorem d_EL_whyNoCast_46 : decode zb_EL_whyNoCast 46 = .ok (.getfield 59, 3) := by decide +kernel
theorem d_EL_whyNoCast_49 : decode zb_EL_whyNoCast 49 = .ok (.aload_n 0, 1) := by decide +kernel
theorem d_EL_whyNoCast_50 : decode zb_EL_whyNoCast 50 = .ok (.getfield 10, 3) := by decide +kernel
theorem d_EL_whyNoCast_53 : decode zb_EL_whyNoCast 53 = .ok (.getfield 97, 3) := by decide +kernel
theorem d_EL_whyNoCast_56 : decode zb_EL_whyNoCast 56 = .ok (.invokevirtual 120, 3) := by decide +kernel
theorem d_EL_whyNoCast_59 : decode zb_EL_whyNoCast 59 = .ok (.bipush 7, 2) := by decide +kernel
theorem d_EL_whyNoCast_61 : decode zb_EL_whyNoCast 61 = .ok (.iload_n 3, 1) := by decide +kernel
theorem d_EL_whyNoCast_62 : decode zb_EL_whyNoCast 62 = .ok (.iadd, 1) := by decide +kernel
theorem d_EL_whyNoCast_63 : decode zb_EL_whyNoCast 63 = .ok (.invokevirtual 107, 3) := by decide +kernel
theorem d_EL_whyNoCast_66 : decode zb_EL_whyNoCast 66 = .ok (.istore 4, 2) := by decide +kernel
theorem d_EL_whyNoCast_68 : decode zb_EL_whyNoCast 68 = .ok (.iload 4, 2) := by decide +kernel
theorem d_EL_whyNoCast_70 : decode zb_EL_whyNoCast 70 = .ok (.aload_n 0, 1) := by decide +kernel
theorem d_EL_whyNoCast_71 : decode zb_EL_whyNoCast 71 = .ok (.getfield 10, 3) := by decide +kernel
theorem d_EL_whyNoCast_74 : decode zb_EL_whyNoCast 74 = .ok (.getfield 179, 3) := by decide +kernel
theorem d_EL_whyNoCast_77 : decode zb_EL_whyNoCast 77 = .ok (.iload_n 1, 1) := by decide +kernel
theorem d_EL_whyNoCast_78 : decode zb_EL_whyNoCast 78 = .ok (.iconst 4, 1) := by decide +kernel
theorem d_EL_whyNoCast_79 : decode zb_EL_whyNoCast 79 = .ok (.invokevirtual 84, 3) := by decide +kernel
theorem d_EL_whyNoCast_82 : decode zb_EL_whyNoCast 82 = .ok (.if_icmp .ge 8, 3) := by decide +kernel
theorem d_EL_whyNoCast_85 : decode zb_EL_whyNoCast 85 = .ok (.bipush 9, 2) := by decide +kernel
theorem d_EL_whyNoCast_87 : decode zb_EL_whyNoCast 87 = .ok (.goto 4, 3) := by decide +kernel
theorem d_EL_whyNoCast_90 : decode zb_EL_whyNoCast 90 = .ok (.iconst 0, 1) := by decide +kernel
theorem d_EL_whyNoCast_91 : decode zb_EL_whyNoCast 91 = .ok (.ireturn, 1) := by decide +kernel
def k_EL_whyNoCast (x : zsX) (l1 : Int32) : Option (Int32) := (k_EL_whyNoAct x).bind fun o1 => (if o1 = 0 then (k_Ta_get 25 100 x.2.2.2.2.1.2.2.1 l1 ((2 : Int32))).bind fun o3 => (if o3 = 0 then some ((8 : Int32)) else (k_Ta_get 25 100 x.2.2.2.2.1.2.2.1 l1 ((3 : Int32))).bind fun o5 => (k_En_current x.2.2.2.2.1.1).bind fun o6 => (k_Fi_at x.2.2.2.2.1.1.1 o6 (((7 : Int32) + o5))).bind fun o7 => (k_Ta_get 25 100 x.2.2.2.2.1.2.2.1 l1 ((4 : Int32))).bind fun o8 => (if o7 < o8 then some ((9 : Int32)) else some ((0 : Int32)))) else some o1)
set_option maxRecDepth 20000 in
theorem c_EL_whyNoCast (c : zY) (q : Nat → Nat) (x : zsX) (l1 : Int32) {out : Int32} (h : k_EL_whyNoCast x l1 = some out) : KM zy_EL_whyNoCast zb_EL_whyNoCast 5 (some .int) 5 c [.ref ((q 17)), .int l1] (zwX c q x) (zwX c q x) (some (.int out)) := zK_of zp_EL rfl (Nat.le_of_ble_eq_true rfl) (zq_EL c q _ _) (fun X hX hR => by
  show Go X (zwX c q x) [(0, .ref ((q 17))), (1, .int l1)] 0 []
  rw [k_EL_whyNoCast] at h
  refine g_aload_n (pc := 0) hX d_EL_whyNoCast_0 rfl 0 rfl ?_
  obtain ⟨o1, e1, h⟩ := zbind h
  refine g_cvI (pc := 1) (w1 := []) (w2 := []) (st := []) (w' := (zwX c q x)) hX zk_EL_whyNoAct zs_EL_whyNoAct zL_EL_132 (c_EL_whyNoAct c q x e1) rfl rfl rfl rfl (zself _) (zself _).symm 3 9 rfl rfl rfl d_EL_whyNoCast_1 ?_
  refine g_istore_n (pc := 4) (L' := [(2, .int o1), (0, .ref ((q 17))), (1, .int l1)]) hX d_EL_whyNoCast_4 rfl rfl rfl ?_
  refine g_iload_n (pc := 5) hX d_EL_whyNoCast_5 rfl 0 rfl ?_
  refine g_if_eq (pc := 6) (tgt := 11) hX d_EL_whyNoCast_6 (by decide) h (fun c2 h => ?_) (fun c2 h => ?_)
  · refine g_aload_n (pc := 11) hX d_EL_whyNoCast_11 rfl 1 rfl ?_
    refine gf_EL_10 (pc := 12) (v := .ref ((q 12))) hX 3 rfl rfl d_EL_whyNoCast_12 ?_
    refine gf_EL_179 (pc := 15) (v := .ref ((q 15))) hX 19 rfl rfl d_EL_whyNoCast_15 ?_
    refine g_iload_n (pc := 18) hX d_EL_whyNoCast_18 rfl 2 rfl ?_
    refine g_iconst (pc := 19) hX d_EL_whyNoCast_19 zc_2 ?_
    obtain ⟨o3, e3, h⟩ := zbind h
    refine g_cvI (pc := 20)  (st := []) (w' := (zwX c q x)) hX zk_Ta_get zs_Ta_get zL_EL_84 (c_Ta_get c (q 15) (q 16) 25 100 x.2.2.2.2.1.2.2.1 l1 ((2 : Int32)) e3) rfl rfl rfl rfl (sp_EL_Ta_22 c q x) (sp_EL_Ta_22 c q x).symm 22 6 rfl rfl rfl d_EL_whyNoCast_20 ?_
    refine g_if_ne (pc := 23) (tgt := 29) hX d_EL_whyNoCast_23 (by decide) h (fun c4 h => ?_) (fun c4 h => ?_)
    · refine g_aload_n (pc := 29) hX d_EL_whyNoCast_29 rfl 1 rfl ?_
      refine gf_EL_10 (pc := 30) (v := .ref ((q 12))) hX 3 rfl rfl d_EL_whyNoCast_30 ?_
      refine gf_EL_179 (pc := 33) (v := .ref ((q 15))) hX 19 rfl rfl d_EL_whyNoCast_33 ?_
      refine g_iload_n (pc := 36) hX d_EL_whyNoCast_36 rfl 2 rfl ?_
      refine g_iconst (pc := 37) hX d_EL_whyNoCast_37 zc_3 ?_
      obtain ⟨o5, e5, h⟩ := zbind h
      refine g_cvI (pc := 38)  (st := []) (w' := (zwX c q x)) hX zk_Ta_get zs_Ta_get zL_EL_84 (c_Ta_get c (q 15) (q 16) 25 100 x.2.2.2.2.1.2.2.1 l1 ((3 : Int32)) e5) rfl rfl rfl rfl (sp_EL_Ta_22 c q x) (sp_EL_Ta_22 c q x).symm 22 6 rfl rfl rfl d_EL_whyNoCast_38 ?_
      refine g_istore_n (pc := 41) (L' := [(3, .int o5), (2, .int o1), (0, .ref ((q 17))), (1, .int l1)]) hX d_EL_whyNoCast_41 rfl rfl rfl ?_
      refine g_aload_n (pc := 42) hX d_EL_whyNoCast_42 rfl 2 rfl ?_
      refine gf_EL_10 (pc := 43) (v := .ref ((q 12))) hX 3 rfl rfl d_EL_whyNoCast_43 ?_
      refine gf_EL_59 (pc := 46) (v := .ref ((q 6))) hX 19 rfl rfl d_EL_whyNoCast_46 ?_
      refine g_aload_n (pc := 49) hX d_EL_whyNoCast_49 rfl 2 rfl ?_
      refine gf_EL_10 (pc := 50) (v := .ref ((q 12))) hX 3 rfl rfl d_EL_whyNoCast_50 ?_
      refine gf_EL_97 (pc := 53) (v := .ref ((q 9))) hX 19 rfl rfl d_EL_whyNoCast_53 ?_
      obtain ⟨o6, e6, h⟩ := zbind h
      refine g_cvI (pc := 56)  (st := [.ref ((q 6))]) (w' := (zwX c q x)) hX zk_En_current zs_En_current zL_EL_120 (c_En_current c q x.2.2.2.2.1.1 e6) rfl rfl rfl rfl (sp_EL_En_7 c q x) (sp_EL_En_7 c q x).symm 16 2 rfl rfl rfl d_EL_whyNoCast_56 ?_
      refine g_bipush (pc := 59) hX d_EL_whyNoCast_59 ze_7 ?_
      refine g_iload_n (pc := 61) hX d_EL_whyNoCast_61 rfl 0 rfl ?_
      refine g_iadd (pc := 62) hX d_EL_whyNoCast_62 ?_
      obtain ⟨o7, e7, h⟩ := zbind h
      refine g_cvI (pc := 63)  (st := []) (w' := (zwX c q x)) hX zk_Fi_at zs_Fi_at zL_EL_107 (c_Fi_at c q x.2.2.2.2.1.1.1 o6 (((7 : Int32) + o5)) e7) rfl rfl rfl rfl (sp_EL_Fi_7 c q x) (sp_EL_Fi_7 c q x).symm 13 3 rfl rfl rfl d_EL_whyNoCast_63 ?_
      refine g_istore (pc := 66) (L' := [(4, .int o7), (3, .int o5), (2, .int o1), (0, .ref ((q 17))), (1, .int l1)]) hX d_EL_whyNoCast_66 rfl rfl ?_
      refine g_iload (pc := 68) hX d_EL_whyNoCast_68 0 rfl ?_
      refine g_aload_n (pc := 70) hX d_EL_whyNoCast_70 rfl 3 rfl ?_
      refine gf_EL_10 (pc := 71) (v := .ref ((q 12))) hX 3 rfl rfl d_EL_whyNoCast_71 ?_
      refine gf_EL_179 (pc := 74) (v := .ref ((q 15))) hX 19 rfl rfl d_EL_whyNoCast_74 ?_
      refine g_iload_n (pc := 77) hX d_EL_whyNoCast_77 rfl 4 rfl ?_
      refine g_iconst (pc := 78) hX d_EL_whyNoCast_78 zc_4 ?_
      obtain ⟨o8, e8, h⟩ := zbind h
      refine g_cvI (pc := 79)  (st := [.int o7]) (w' := (zwX c q x)) hX zk_Ta_get zs_Ta_get zL_EL_84 (c_Ta_get c (q 15) (q 16) 25 100 x.2.2.2.2.1.2.2.1 l1 ((4 : Int32)) e8) rfl rfl rfl rfl (sp_EL_Ta_22 c q x) (sp_EL_Ta_22 c q x).symm 22 6 rfl rfl rfl d_EL_whyNoCast_79 ?_
      refine g_icmp_ge (pc := 82) (tgt := 90) hX d_EL_whyNoCast_82 (by decide) h (fun c9 h => ?_) (fun c9 h => ?_)
      · refine g_iconst (pc := 90) hX d_EL_whyNoCast_90 zc_0 ?_
        obtain rfl := Option.some.inj h
        exact g_iret (pc := 91) hX hR d_EL_whyNoCast_91
      · refine g_bipush (pc := 85) hX d_EL_whyNoCast_85 ze_9 ?_
        refine g_goto (pc := 87) (tgt := 91) hX d_EL_whyNoCast_87 (by decide) ?_
        obtain rfl := Option.some.inj h
        exact g_iret (pc := 91) hX hR d_EL_whyNoCast_91
    · refine g_bipush (pc := 26) hX d_EL_whyNoCast_26 ze_8 ?_
      obtain rfl := Option.some.inj h
      exact g_iret (pc := 28) hX hR d_EL_whyNoCast_28
  · refine g_iload_n (pc := 9) hX d_EL_whyNoCast_9 rfl 0 rfl ?_
    obtain rfl := Option.some.inj h
    exact g_iret (pc := 10) hX hR d_EL_whyNoCast_10)
theorem d_EL_isMet_0 : decode zb_EL_isMet 0 = .ok (.aload_n 0, 1) := by decide +kernel
theorem d_EL_isMet_1 : decode zb_EL_isMet 1 = .ok (.getfield 10, 3) := by decide +kernel
theorem d_EL_isMet_4 : decode zb_EL_isMet 4 = .ok (.getfield 179, 3) := by decide +kernel
theorem d_EL_isMet_7 : decode zb_EL_isMet 7 = .ok (.iload_n 2, 1) := by decide +kernel
theorem d_EL_isMet_8 : decode zb_EL_isMet 8 = .ok (.iconst 0, 1) := by decide +kernel
theorem d_EL_isMet_9 : decode zb_EL_isMet 9 = .ok (.invokevirtual 84, 3) := by decide +kernel
theorem d_EL_isMet_12 : decode zb_EL_isMet 12 = .ok (.iload_n 3, 1) := by decide +kernel
theorem d_EL_isMet_13 : decode zb_EL_isMet 13 = .ok (.iload 4, 2) := by decide +kernel
theorem d_EL_isMet_15 : decode zb_EL_isMet 15 = .ok (.aload_n 0, 1) := by decide +kernel
theorem d_EL_isMet_16 : decode zb_EL_isMet 16 = .ok (.getfield 10, 3) := by decide +kernel
theorem d_EL_isMet_19 : decode zb_EL_isMet 19 = .ok (.getfield 179, 3) := by decide +kernel
theorem d_EL_isMet_22 : decode zb_EL_isMet 22 = .ok (.iload_n 2, 1) := by decide +kernel
theorem d_EL_isMet_23 : decode zb_EL_isMet 23 = .ok (.iconst 1, 1) := by decide +kernel
theorem d_EL_isMet_24 : decode zb_EL_isMet 24 = .ok (.invokevirtual 84, 3) := by decide +kernel
theorem d_EL_isMet_27 : decode zb_EL_isMet 27 = .ok (.aload_n 0, 1) := by decide +kernel
theorem d_EL_isMet_28 : decode zb_EL_isMet 28 = .ok (.getfield 10, 3) := by decide +kernel
theorem d_EL_isMet_31 : decode zb_EL_isMet 31 = .ok (.getfield 59, 3) := by decide +kernel
theorem d_EL_isMet_34 : decode zb_EL_isMet 34 = .ok (.iload_n 1, 1) := by decide +kernel
theorem d_EL_isMet_35 : decode zb_EL_isMet 35 = .ok (.iconst 1, 1) := by decide +kernel
theorem d_EL_isMet_36 : decode zb_EL_isMet 36 = .ok (.invokevirtual 107, 3) := by decide +kernel
theorem d_EL_isMet_39 : decode zb_EL_isMet 39 = .ok (.invokestatic 253, 3) := by decide +kernel
theorem d_EL_isMet_42 : decode zb_EL_isMet 42 = .ok (.ireturn, 1) := by decide +kernel
def k_EL_isMet (x : zsX) (l1 : Int32) (l2 : Int32) (l3 : Int32) (l4 : Int32) : Option (Int32) := (k_Ta_get 25 100 x.2.2.2.2.1.2.2.1 l2 ((0 : Int32))).bind fun o1 => (k_Ta_get 25 100 x.2.2.2.2.1.2.2.1 l2 ((1 : Int32))).bind fun o2 => (k_Fi_at x.2.2.2.2.1.1.1 l1 ((1 : Int32))).bind fun o3 => (k_EL_isInArea o1 l3 l4 o2 o3).bind fun o4 => (if o4 = 0 ∨ o4 = 1 then some o4 else none)
set_option maxRecDepth 20000 in
theorem c_EL_isMet (c : zY) (q : Nat → Nat) (x : zsX) (l1 : Int32) (l2 : Int32) (l3 : Int32) (l4 : Int32) {out : Int32} (h : k_EL_isMet x l1 l2 l3 l4 = some out) : KM zy_EL_isMet zb_EL_isMet 5 (some .boolean) 2 c [.ref ((q 17)), .int l1, .int l2, .int l3, .int l4] (zwX c q x) (zwX c q x) (some (.int out)) := zK_of zp_EL rfl (Nat.le_of_ble_eq_true rfl) (zq_EL c q _ _) (fun X hX hR => by
  show Go X (zwX c q x) [(0, .ref ((q 17))), (1, .int l1), (2, .int l2), (3, .int l3), (4, .int l4)] 0 []
  rw [k_EL_isMet] at h
  refine g_aload_n (pc := 0) hX d_EL_isMet_0 rfl 0 rfl ?_
  refine gf_EL_10 (pc := 1) (v := .ref ((q 12))) hX 3 rfl rfl d_EL_isMet_1 ?_
  refine gf_EL_179 (pc := 4) (v := .ref ((q 15))) hX 19 rfl rfl d_EL_isMet_4 ?_
  refine g_iload_n (pc := 7) hX d_EL_isMet_7 rfl 2 rfl ?_
  refine g_iconst (pc := 8) hX d_EL_isMet_8 zc_0 ?_
  obtain ⟨o1, e1, h⟩ := zbind h
  refine g_cvI (pc := 9)  (st := []) (w' := (zwX c q x)) hX zk_Ta_get zs_Ta_get zL_EL_84 (c_Ta_get c (q 15) (q 16) 25 100 x.2.2.2.2.1.2.2.1 l2 ((0 : Int32)) e1) rfl rfl rfl rfl (sp_EL_Ta_22 c q x) (sp_EL_Ta_22 c q x).symm 22 6 rfl rfl rfl d_EL_isMet_9 ?_
  refine g_iload_n (pc := 12) hX d_EL_isMet_12 rfl 3 rfl ?_
  refine g_iload (pc := 13) hX d_EL_isMet_13 4 rfl ?_
  refine g_aload_n (pc := 15) hX d_EL_isMet_15 rfl 0 rfl ?_
  refine gf_EL_10 (pc := 16) (v := .ref ((q 12))) hX 3 rfl rfl d_EL_isMet_16 ?_
  refine gf_EL_179 (pc := 19) (v := .ref ((q 15))) hX 19 rfl rfl d_EL_isMet_19 ?_
  refine g_iload_n (pc := 22) hX d_EL_isMet_22 rfl 2 rfl ?_
  refine g_iconst (pc := 23) hX d_EL_isMet_23 zc_1 ?_
  obtain ⟨o2, e2, h⟩ := zbind h
  refine g_cvI (pc := 24)  (st := [.int l4, .int l3, .int o1]) (w' := (zwX c q x)) hX zk_Ta_get zs_Ta_get zL_EL_84 (c_Ta_get c (q 15) (q 16) 25 100 x.2.2.2.2.1.2.2.1 l2 ((1 : Int32)) e2) rfl rfl rfl rfl (sp_EL_Ta_22 c q x) (sp_EL_Ta_22 c q x).symm 22 6 rfl rfl rfl d_EL_isMet_24 ?_
  refine g_aload_n (pc := 27) hX d_EL_isMet_27 rfl 0 rfl ?_
  refine gf_EL_10 (pc := 28) (v := .ref ((q 12))) hX 3 rfl rfl d_EL_isMet_28 ?_
  refine gf_EL_59 (pc := 31) (v := .ref ((q 6))) hX 19 rfl rfl d_EL_isMet_31 ?_
  refine g_iload_n (pc := 34) hX d_EL_isMet_34 rfl 1 rfl ?_
  refine g_iconst (pc := 35) hX d_EL_isMet_35 zc_1 ?_
  obtain ⟨o3, e3, h⟩ := zbind h
  refine g_cvI (pc := 36)  (st := [.int o2, .int l4, .int l3, .int o1]) (w' := (zwX c q x)) hX zk_Fi_at zs_Fi_at zL_EL_107 (c_Fi_at c q x.2.2.2.2.1.1.1 l1 ((1 : Int32)) e3) rfl rfl rfl rfl (sp_EL_Fi_7 c q x) (sp_EL_Fi_7 c q x).symm 13 3 rfl rfl rfl d_EL_isMet_36 ?_
  obtain ⟨o4, e4, h⟩ := zbind h
  refine g_csI (pc := 39) (st := []) hX zk_EL_isInArea zL_EL_253 (c_EL_isInArea c o1 l3 l4 o2 o3 e4) rfl rfl rfl rfl rfl d_EL_isMet_39 ?_
  obtain ⟨hb5, h⟩ := zifb h
  obtain rfl := Option.some.inj h
  exact g_zret (pc := 42) hX hR hb5 d_EL_isMet_42)
theorem d_EL_countMet_0 : decode zb_EL_countMet 0 = .ok (.iconst 0, 1) := by decide +kernel
theorem d_EL_countMet_1 : decode zb_EL_countMet 1 = .ok (.istore 4, 2) := by decide +kernel
theorem d_EL_countMet_3 : decode zb_EL_countMet 3 = .ok (.iconst 0, 1) := by decide +kernel
theorem d_EL_countMet_4 : decode zb_EL_countMet 4 = .ok (.istore 5, 2) := by decide +kernel
theorem d_EL_countMet_6 : decode zb_EL_countMet 6 = .ok (.iload 5, 2) := by decide +kernel
theorem d_EL_countMet_8 : decode zb_EL_countMet 8 = .ok (.aload_n 0, 1) := by decide +kernel
theorem d_EL_countMet_9 : decode zb_EL_countMet 9 = .ok (.getfield 10, 3) := by decide +kernel
theorem d_EL_countMet_12 : decode zb_EL_countMet 12 = .ok (.getfield 59, 3) := by decide +kernel
theorem d_EL_countMet_15 : decode zb_EL_countMet 15 = .ok (.invokevirtual 63, 3) := by decide +kernel
theorem d_EL_countMet_18 : decode zb_EL_countMet 18 = .ok (.if_icmp .ge 24, 3) := by decide +kernel
theorem d_EL_countMet_21 : decode zb_EL_countMet 21 = .ok (.aload_n 0, 1) := by decide +kernel
theorem d_EL_countMet_22 : decode zb_EL_countMet 22 = .ok (.iload 5, 2) := by decide +kernel
theorem d_EL_countMet_24 : decode zb_EL_countMet 24 = .ok (.iload_n 1, 1) := by decide +kernel
theorem d_EL_countMet_25 : decode zb_EL_countMet 25 = .ok (.iload_n 2, 1) := by decide +kernel
theorem d_EL_countMet_26 : decode zb_EL_countMet 26 = .ok (.iload_n 3, 1) := by decide +kernel
theorem d_EL_countMet_27 : decode zb_EL_countMet 27 = .ok (.invokevirtual 334, 3) := by decide +kernel
theorem d_EL_countMet_30 : decode zb_EL_countMet 30 = .ok (.ifCond .eq 6, 3) := by decide +kernel
theorem d_EL_countMet_33 : decode zb_EL_countMet 33 = .ok (.iinc 4 1, 3) := by decide +kernel
theorem d_EL_countMet_36 : decode zb_EL_countMet 36 = .ok (.iinc 5 1, 3) := by decide +kernel
theorem d_EL_countMet_39 : decode zb_EL_countMet 39 = .ok (.goto (-33), 3) := by decide +kernel
theorem d_EL_countMet_42 : decode zb_EL_countMet 42 = .ok (.iload 4, 2) := by decide +kernel
theorem d_EL_countMet_44 : decode zb_EL_countMet 44 = .ok (.ireturn, 1) := by decide +kernel
def k_EL_countMet_6 (x : zsX) (l1 : Int32) (l2 : Int32) (l3 : Int32) : Nat → Int32 → Int32 → Option (Int32)
  | 0, _, _ => none
  | fu + 1, l4, l5 => (k_Fi_size x.2.2.2.2.1.1.1).bind fun o1 => (if l5 < o1 then (k_EL_isMet x l5 l1 l2 l3).bind fun o3 => (if o3 = 0 then k_EL_countMet_6 x l1 l2 l3 fu l4 ((l5 + (1 : Int32))) else k_EL_countMet_6 x l1 l2 l3 fu ((l4 + (1 : Int32))) ((l5 + (1 : Int32)))) else some l4)
set_option maxRecDepth 20000 in
theorem w_EL_countMet_6 {X : zX} {c : zY} {q : Nat → Nat} {x : zsX} {l1 : Int32} {l2 : Int32} {l3 : Int32} {out : Int32} (hX : Ok X zr_EL zb_EL_countMet 6 3 c) (hR : Rt X (some .int) (some (.int out)) (zwX c q x)) : ∀ (fu : Nat) (l4 : Int32) (l5 : Int32), k_EL_countMet_6 x l1 l2 l3 fu l4 l5 = some out → Go X (zwX c q x) [(0, .ref ((q 17))), (1, .int l1), (2, .int l2), (3, .int l3), (4, .int l4), (5, .int l5)] 6 [] := by
  intro fu
  induction fu with
  | zero => intro l4 l5 h; rw [k_EL_countMet_6] at h; cases h
  | succ fu ih =>
    intro l4 l5 h
    rw [k_EL_countMet_6] at h
    refine g_iload (pc := 6) hX d_EL_countMet_6 5 rfl ?_
    refine g_aload_n (pc := 8) hX d_EL_countMet_8 rfl 0 rfl ?_
    refine gf_EL_10 (pc := 9) (v := .ref ((q 12))) hX 3 rfl rfl d_EL_countMet_9 ?_
    refine gf_EL_59 (pc := 12) (v := .ref ((q 6))) hX 19 rfl rfl d_EL_countMet_12 ?_
    obtain ⟨o1, e1, h⟩ := zbind h
    refine g_cvI (pc := 15)  (st := [.int l5]) (w' := (zwX c q x)) hX zk_Fi_size zs_Fi_size zL_EL_63 (c_Fi_size c q x.2.2.2.2.1.1.1 e1) rfl rfl rfl rfl (sp_EL_Fi_7 c q x) (sp_EL_Fi_7 c q x).symm 13 3 rfl rfl rfl d_EL_countMet_15 ?_
    refine g_icmp_ge (pc := 18) (tgt := 42) hX d_EL_countMet_18 (by decide) h (fun c2 h => ?_) (fun c2 h => ?_)
    · refine g_iload (pc := 42) hX d_EL_countMet_42 4 rfl ?_
      obtain rfl := Option.some.inj h
      exact g_iret (pc := 44) hX hR d_EL_countMet_44
    · refine g_aload_n (pc := 21) hX d_EL_countMet_21 rfl 0 rfl ?_
      refine g_iload (pc := 22) hX d_EL_countMet_22 5 rfl ?_
      refine g_iload_n (pc := 24) hX d_EL_countMet_24 rfl 1 rfl ?_
      refine g_iload_n (pc := 25) hX d_EL_countMet_25 rfl 2 rfl ?_
      refine g_iload_n (pc := 26) hX d_EL_countMet_26 rfl 3 rfl ?_
      obtain ⟨o3, e3, h⟩ := zbind h
      refine g_cvI (pc := 27) (w1 := []) (w2 := []) (st := []) (w' := (zwX c q x)) hX zk_EL_isMet zs_EL_isMet zL_EL_334 (c_EL_isMet c q x l5 l1 l2 l3 e3) rfl rfl rfl rfl (zself _) (zself _).symm 3 9 rfl rfl rfl d_EL_countMet_27 ?_
      refine g_if_eq (pc := 30) (tgt := 36) hX d_EL_countMet_30 (by decide) h (fun c4 h => ?_) (fun c4 h => ?_)
      · refine g_iinc (pc := 36) (q := 5) (L' := [(5, .int ((l5 + (1 : Int32)))), (0, .ref ((q 17))), (1, .int l1), (2, .int l2), (3, .int l3), (4, .int l4)]) hX d_EL_countMet_36 rfl zc_1 rfl rfl ?_
        refine g_goto (pc := 39) (tgt := 6) hX d_EL_countMet_39 (by decide) ?_
        refine g_ls (L' := [(0, .ref ((q 17))), (1, .int l1), (2, .int l2), (3, .int l3), (4, .int l4), (5, .int ((l5 + (1 : Int32))))]) [1, 2, 3, 4, 5, 0] rfl ?_
        exact ih _ _ h
      · refine g_iinc (pc := 33) (q := 4) (L' := [(4, .int ((l4 + (1 : Int32)))), (0, .ref ((q 17))), (1, .int l1), (2, .int l2), (3, .int l3), (5, .int l5)]) hX d_EL_countMet_33 rfl zc_1 rfl rfl ?_
        refine g_iinc (pc := 36) (q := 5) (L' := [(5, .int ((l5 + (1 : Int32)))), (4, .int ((l4 + (1 : Int32)))), (0, .ref ((q 17))), (1, .int l1), (2, .int l2), (3, .int l3)]) hX d_EL_countMet_36 rfl zc_1 rfl rfl ?_
        refine g_goto (pc := 39) (tgt := 6) hX d_EL_countMet_39 (by decide) ?_
        refine g_ls (L' := [(0, .ref ((q 17))), (1, .int l1), (2, .int l2), (3, .int l3), (4, .int ((l4 + (1 : Int32)))), (5, .int ((l5 + (1 : Int32))))]) [2, 3, 4, 5, 1, 0] rfl ?_
        exact ih _ _ h
def k_EL_countMet (x : zsX) (l1 : Int32) (l2 : Int32) (l3 : Int32) : Option (Int32) := k_EL_countMet_6 x l1 l2 l3 zFu ((0 : Int32)) ((0 : Int32))
set_option maxRecDepth 20000 in
theorem c_EL_countMet (c : zY) (q : Nat → Nat) (x : zsX) (l1 : Int32) (l2 : Int32) (l3 : Int32) {out : Int32} (h : k_EL_countMet x l1 l2 l3 = some out) : KM zy_EL_countMet zb_EL_countMet 6 (some .int) 3 c [.ref ((q 17)), .int l1, .int l2, .int l3] (zwX c q x) (zwX c q x) (some (.int out)) := zK_of zp_EL rfl (Nat.le_of_ble_eq_true rfl) (zq_EL c q _ _) (fun X hX hR => by
  show Go X (zwX c q x) [(0, .ref ((q 17))), (1, .int l1), (2, .int l2), (3, .int l3)] 0 []
  rw [k_EL_countMet] at h
  refine g_iconst (pc := 0) hX d_EL_countMet_0 zc_0 ?_
  refine g_istore (pc := 1) (L' := [(4, .int ((0 : Int32))), (0, .ref ((q 17))), (1, .int l1), (2, .int l2), (3, .int l3)]) hX d_EL_countMet_1 rfl rfl ?_
  refine g_iconst (pc := 3) hX d_EL_countMet_3 zc_0 ?_
  refine g_istore (pc := 4) (L' := [(5, .int ((0 : Int32))), (4, .int ((0 : Int32))), (0, .ref ((q 17))), (1, .int l1), (2, .int l2), (3, .int l3)]) hX d_EL_countMet_4 rfl rfl ?_
  refine g_ls (L' := [(0, .ref ((q 17))), (1, .int l1), (2, .int l2), (3, .int l3), (4, .int ((0 : Int32))), (5, .int ((0 : Int32)))]) [2, 3, 4, 5, 1, 0] rfl ?_
  exact w_EL_countMet_6 hX hR _ _ _ h)
theorem d_EL_spread_0 : decode zb_EL_spread 0 = .ok (.aload_n 0, 1) := by decide +kernel
theorem d_EL_spread_1 : decode zb_EL_spread 1 = .ok (.getfield 10, 3) := by decide +kernel
theorem d_EL_spread_4 : decode zb_EL_spread 4 = .ok (.getfield 97, 3) := by decide +kernel
theorem d_EL_spread_7 : decode zb_EL_spread 7 = .ok (.invokevirtual 120, 3) := by decide +kernel
theorem d_EL_spread_10 : decode zb_EL_spread 10 = .ok (.istore 5, 2) := by decide +kernel
theorem d_EL_spread_12 : decode zb_EL_spread 12 = .ok (.iconst 5, 1) := by decide +kernel
theorem d_EL_spread_13 : decode zb_EL_spread 13 = .ok (.iload_n 2, 1) := by decide +kernel
theorem d_EL_spread_14 : decode zb_EL_spread 14 = .ok (.iconst 5, 1) := by decide +kernel
theorem d_EL_spread_15 : decode zb_EL_spread 15 = .ok (.imul, 1) := by decide +kernel
theorem d_EL_spread_16 : decode zb_EL_spread 16 = .ok (.iadd, 1) := by decide +kernel
theorem d_EL_spread_17 : decode zb_EL_spread 17 = .ok (.istore 6, 2) := by decide +kernel
theorem d_EL_spread_19 : decode zb_EL_spread 19 = .ok (.aload_n 0, 1) := by decide +kernel
theorem d_EL_spread_20 : decode zb_EL_spread 20 = .ok (.getfield 10, 3) := by decide +kernel
theorem d_EL_spread_23 : decode zb_EL_spread 23 = .ok (.getfield 179, 3) := by decide +kernel
theorem d_EL_spread_26 : decode zb_EL_spread 26 = .ok (.iload_n 1, 1) := by decide +kernel
theorem d_EL_spread_27 : decode zb_EL_spread 27 = .ok (.iload 6, 2) := by decide +kernel
theorem d_EL_spread_29 : decode zb_EL_spread 29 = .ok (.invokevirtual 84, 3) := by decide +kernel
theorem d_EL_spread_32 : decode zb_EL_spread 32 = .ok (.istore 7, 2) := by decide +kernel
theorem d_EL_spread_34 : decode zb_EL_spread 34 = .ok (.aload_n 0, 1) := by decide +kernel
theorem d_EL_spread_35 : decode zb_EL_spread 35 = .ok (.getfield 10, 3) := by decide +kernel
theorem d_EL_spread_38 : decode zb_EL_spread 38 = .ok (.getfield 179, 3) := by decide +kernel
theorem d_EL_spread_41 : decode zb_EL_spread 41 = .ok (.iload_n 1, 1) := by decide +kernel
theorem d_EL_spread_42 : decode zb_EL_spread 42 = .ok (.iload 6, 2) := by decide +kernel
theorem d_EL_spread_44 : decode zb_EL_spread 44 = .ok (.iconst 1, 1) := by decide +kernel
theorem d_EL_spread_45 : decode zb_EL_spread 45 = .ok (.iadd, 1) := by decide +kernel
theorem d_EL_spread_46 : decode zb_EL_spread 46 = .ok (.invokevirtual 84, 3) := by decide +kernel
theorem d_EL_spread_49 : decode zb_EL_spread 49 = .ok (.istore 8, 2) := by decide +kernel
theorem d_EL_spread_51 : decode zb_EL_spread 51 = .ok (.iload 7, 2) := by decide +kernel
theorem d_EL_spread_53 : decode zb_EL_spread 53 = .ok (.bipush 109, 2) := by decide +kernel
theorem d_EL_spread_55 : decode zb_EL_spread 55 = .ok (.if_icmp .eq 22, 3) := by decide +kernel
theorem d_EL_spread_58 : decode zb_EL_spread 58 = .ok (.iload 7, 2) := by decide +kernel
theorem d_EL_spread_60 : decode zb_EL_spread 60 = .ok (.bipush 107, 2) := by decide +kernel
theorem d_EL_spread_62 : decode zb_EL_spread 62 = .ok (.if_icmp .ne 19, 3) := by decide +kernel
theorem d_EL_spread_65 : decode zb_EL_spread 65 = .ok (.iload 8, 2) := by decide +kernel
theorem d_EL_spread_67 : decode zb_EL_spread 67 = .ok (.iconst 2, 1) := by decide +kernel
theorem d_EL_spread_68 : decode zb_EL_spread 68 = .ok (.if_icmp .eq 9, 3) := by decide +kernel
theorem d_EL_spread_71 : decode zb_EL_spread 71 = .ok (.iload 8, 2) := by decide +kernel
theorem d_EL_spread_73 : decode zb_EL_spread 73 = .ok (.iconst 3, 1) := by decide +kernel
theorem d_EL_spread_74 : decode zb_EL_spread 74 = .ok (.if_icmp .ne 7, 3) := by decide +kernel
theorem d_EL_spread_77 : decode zb_EL_spread 77 = .ok (.iconst 1, 1) := by decide +kernel
theorem d_EL_spread_78 : decode zb_EL_spread 78 = .ok (.goto 4, 3) := by decide +kernel
theorem d_EL_spread_81 : decode zb_EL_spread 81 = .ok (.iconst 0, 1) := by decide +kernel
theorem d_EL_spread_82 : decode zb_EL_spread 82 = .ok (.istore 9, 2) := by decide +kernel
theorem d_EL_spread_84 : decode zb_EL_spread 84 = .ok (.iconst 0, 1) := by decide +kernel
theorem d_EL_spread_85 : decode zb_EL_spread 85 = .ok (.istore 10, 2) := by decide +kernel
theorem d_EL_spread_87 : decode zb_EL_spread 87 = .ok (.iload 10, 2) := by decide +kernel
theorem d_EL_spread_89 : decode zb_EL_spread 89 = .ok (.aload_n 0, 1) := by decide +kernel
theorem d_EL_spread_90 : decode zb_EL_spread 90 = .ok (.getfield 10, 3) := by decide +kernel
theorem d_EL_spread_93 : decode zb_EL_spread 93 = .ok (.getfield 59, 3) := by decide +kernel
theorem d_EL_spread_96 : decode zb_EL_spread 96 = .ok (.invokevirtual 63, 3) := by decide +kernel
theorem d_EL_spread_99 : decode zb_EL_spread 99 = .ok (.if_icmp .ge 184, 3) := by decide +kernel
theorem d_EL_spread_102 : decode zb_EL_spread 102 = .ok (.aload_n 0, 1) := by decide +kernel
theorem d_EL_spread_103 : decode zb_EL_spread 103 = .ok (.getfield 10, 3) := by decide +kernel
theorem d_EL_spread_106 : decode zb_EL_spread 106 = .ok (.getfield 97, 3) := by decide +kernel
theorem d_EL_spread_109 : decode zb_EL_spread 109 = .ok (.iload 10, 2) := by decide +kernel
theorem d_EL_spread_111 : decode zb_EL_spread 111 = .ok (.invokevirtual 338, 3) := by decide +kernel
theorem d_EL_spread_114 : decode zb_EL_spread 114 = .ok (.istore 11, 2) := by decide +kernel
theorem d_EL_spread_116 : decode zb_EL_spread 116 = .ok (.aload_n 0, 1) := by decide +kernel
theorem d_EL_spread_117 : decode zb_EL_spread 117 = .ok (.getfield 10, 3) := by decide +kernel
theorem d_EL_spread_120 : decode zb_EL_spread 120 = .ok (.getfield 59, 3) := by decide +kernel
theorem d_EL_spread_123 : decode zb_EL_spread 123 = .ok (.iload 5, 2) := by decide +kernel
theorem d_EL_spread_125 : decode zb_EL_spread 125 = .ok (.iload 11, 2) := by decide +kernel
theorem d_EL_spread_127 : decode zb_EL_spread 127 = .ok (.invokevirtual 322, 3) := by decide +kernel
theorem d_EL_spread_130 : decode zb_EL_spread 130 = .ok (.iload 9, 2) := by decide +kernel
theorem d_EL_spread_132 : decode zb_EL_spread 132 = .ok (.if_icmp .eq 145, 3) := by decide +kernel
theorem d_EL_spread_135 : decode zb_EL_spread 135 = .ok (.aload_n 0, 1) := by decide +kernel
theorem d_EL_spread_136 : decode zb_EL_spread 136 = .ok (.iload 11, 2) := by decide +kernel
theorem d_EL_spread_138 : decode zb_EL_spread 138 = .ok (.iload_n 1, 1) := by decide +kernel
theorem d_EL_spread_139 : decode zb_EL_spread 139 = .ok (.iload_n 3, 1) := by decide +kernel
theorem d_EL_spread_140 : decode zb_EL_spread 140 = .ok (.iload 4, 2) := by decide +kernel
theorem d_EL_spread_142 : decode zb_EL_spread 142 = .ok (.invokevirtual 334, 3) := by decide +kernel
theorem d_EL_spread_145 : decode zb_EL_spread 145 = .ok (.ifCond .ne 6, 3) := by decide +kernel
theorem d_EL_spread_148 : decode zb_EL_spread 148 = .ok (.goto 129, 3) := by decide +kernel
theorem d_EL_spread_151 : decode zb_EL_spread 151 = .ok (.iload 7, 2) := by decide +kernel
theorem d_EL_spread_153 : decode zb_EL_spread 153 = .ok (.bipush 104, 2) := by decide +kernel
theorem d_EL_spread_155 : decode zb_EL_spread 155 = .ok (.if_icmp .ne 21, 3) := by decide +kernel
theorem d_EL_spread_158 : decode zb_EL_spread 158 = .ok (.aload_n 0, 1) := by decide +kernel
theorem d_EL_spread_159 : decode zb_EL_spread 159 = .ok (.getfield 10, 3) := by decide +kernel
theorem d_EL_spread_162 : decode zb_EL_spread 162 = .ok (.getfield 59, 3) := by decide +kernel
theorem d_EL_spread_165 : decode zb_EL_spread 165 = .ok (.iload 11, 2) := by decide +kernel
theorem d_EL_spread_167 : decode zb_EL_spread 167 = .ok (.iload 8, 2) := by decide +kernel
theorem d_EL_spread_169 : decode zb_EL_spread 169 = .ok (.invokevirtual 164, 3) := by decide +kernel
theorem d_EL_spread_172 : decode zb_EL_spread 172 = .ok (.pop, 1) := by decide +kernel
theorem d_EL_spread_173 : decode zb_EL_spread 173 = .ok (.goto 104, 3) := by decide +kernel
theorem d_EL_spread_176 : decode zb_EL_spread 176 = .ok (.iload 7, 2) := by decide +kernel
theorem d_EL_spread_178 : decode zb_EL_spread 178 = .ok (.bipush 109, 2) := by decide +kernel
theorem d_EL_spread_180 : decode zb_EL_spread 180 = .ok (.if_icmp .ne 21, 3) := by decide +kernel
theorem d_EL_spread_183 : decode zb_EL_spread 183 = .ok (.aload_n 0, 1) := by decide +kernel
theorem d_EL_spread_184 : decode zb_EL_spread 184 = .ok (.getfield 10, 3) := by decide +kernel
theorem d_EL_spread_187 : decode zb_EL_spread 187 = .ok (.getfield 59, 3) := by decide +kernel
theorem d_EL_spread_190 : decode zb_EL_spread 190 = .ok (.iload 11, 2) := by decide +kernel
theorem d_EL_spread_192 : decode zb_EL_spread 192 = .ok (.iload 8, 2) := by decide +kernel
theorem d_EL_spread_194 : decode zb_EL_spread 194 = .ok (.invokevirtual 341, 3) := by decide +kernel
theorem d_EL_spread_197 : decode zb_EL_spread 197 = .ok (.pop, 1) := by decide +kernel
theorem d_EL_spread_198 : decode zb_EL_spread 198 = .ok (.goto 79, 3) := by decide +kernel
theorem d_EL_spread_201 : decode zb_EL_spread 201 = .ok (.aload_n 0, 1) := by decide +kernel
theorem d_EL_spread_202 : decode zb_EL_spread 202 = .ok (.getfield 10, 3) := by decide +kernel
theorem d_EL_spread_205 : decode zb_EL_spread 205 = .ok (.getfield 59, 3) := by decide +kernel
theorem d_EL_spread_208 : decode zb_EL_spread 208 = .ok (.iload 11, 2) := by decide +kernel
theorem d_EL_spread_210 : decode zb_EL_spread 210 = .ok (.invokevirtual 326, 3) := by decide +kernel
theorem d_EL_spread_213 : decode zb_EL_spread 213 = .ok (.ifCond .ne 64, 3) := by decide +kernel
theorem d_EL_spread_216 : decode zb_EL_spread 216 = .ok (.aload_n 0, 1) := by decide +kernel
theorem d_EL_spread_217 : decode zb_EL_spread 217 = .ok (.getfield 10, 3) := by decide +kernel
theorem d_EL_spread_220 : decode zb_EL_spread 220 = .ok (.getfield 223, 3) := by decide +kernel
theorem d_EL_spread_223 : decode zb_EL_spread 223 = .ok (.iload 8, 2) := by decide +kernel
theorem d_EL_spread_225 : decode zb_EL_spread 225 = .ok (.iload 11, 2) := by decide +kernel
theorem d_EL_spread_227 : decode zb_EL_spread 227 = .ok (.iload 5, 2) := by decide +kernel
theorem d_EL_spread_229 : decode zb_EL_spread 229 = .ok (.aload_n 0, 1) := by decide +kernel
theorem d_EL_spread_230 : decode zb_EL_spread 230 = .ok (.getfield 10, 3) := by decide +kernel
theorem d_EL_spread_233 : decode zb_EL_spread 233 = .ok (.getfield 179, 3) := by decide +kernel
theorem d_EL_spread_236 : decode zb_EL_spread 236 = .ok (.iload_n 1, 1) := by decide +kernel
theorem d_EL_spread_237 : decode zb_EL_spread 237 = .ok (.iload 6, 2) := by decide +kernel
theorem d_EL_spread_239 : decode zb_EL_spread 239 = .ok (.iconst 2, 1) := by decide +kernel
theorem d_EL_spread_240 : decode zb_EL_spread 240 = .ok (.iadd, 1) := by decide +kernel
theorem d_EL_spread_241 : decode zb_EL_spread 241 = .ok (.invokevirtual 84, 3) := by decide +kernel
theorem d_EL_spread_244 : decode zb_EL_spread 244 = .ok (.aload_n 0, 1) := by decide +kernel
theorem d_EL_spread_245 : decode zb_EL_spread 245 = .ok (.getfield 10, 3) := by decide +kernel
theorem d_EL_spread_248 : decode zb_EL_spread 248 = .ok (.getfield 179, 3) := by decide +kernel
theorem d_EL_spread_251 : decode zb_EL_spread 251 = .ok (.iload_n 1, 1) := by decide +kernel
theorem d_EL_spread_252 : decode zb_EL_spread 252 = .ok (.iload 6, 2) := by decide +kernel
theorem d_EL_spread_254 : decode zb_EL_spread 254 = .ok (.iconst 3, 1) := by decide +kernel
theorem d_EL_spread_255 : decode zb_EL_spread 255 = .ok (.iadd, 1) := by decide +kernel
theorem d_EL_spread_256 : decode zb_EL_spread 256 = .ok (.invokevirtual 84, 3) := by decide +kernel
theorem d_EL_spread_259 : decode zb_EL_spread 259 = .ok (.aload_n 0, 1) := by decide +kernel
theorem d_EL_spread_260 : decode zb_EL_spread 260 = .ok (.getfield 10, 3) := by decide +kernel
theorem d_EL_spread_263 : decode zb_EL_spread 263 = .ok (.getfield 179, 3) := by decide +kernel
theorem d_EL_spread_266 : decode zb_EL_spread 266 = .ok (.iload_n 1, 1) := by decide +kernel
theorem d_EL_spread_267 : decode zb_EL_spread 267 = .ok (.iload 6, 2) := by decide +kernel
theorem d_EL_spread_269 : decode zb_EL_spread 269 = .ok (.iconst 4, 1) := by decide +kernel
theorem d_EL_spread_270 : decode zb_EL_spread 270 = .ok (.iadd, 1) := by decide +kernel
theorem d_EL_spread_271 : decode zb_EL_spread 271 = .ok (.invokevirtual 84, 3) := by decide +kernel
theorem d_EL_spread_274 : decode zb_EL_spread 274 = .ok (.invokevirtual 344, 3) := by decide +kernel
theorem d_EL_spread_277 : decode zb_EL_spread 277 = .ok (.iinc 10 1, 3) := by decide +kernel
theorem d_EL_spread_280 : decode zb_EL_spread 280 = .ok (.goto (-193), 3) := by decide +kernel
theorem d_EL_spread_283 : decode zb_EL_spread 283 = .ok (.return_, 1) := by decide +kernel
def k_EL_spread_87 (l1 : Int32) (l2 : Int32) (l3 : Int32) (l4 : Int32) : Nat → Int32 → Int32 → Int32 → Int32 → Int32 → Int32 → zsX → Option (zsX)
  | 0, _, _, _, _, _, _, _ => none
  | fu + 1, l5, l6, l7, l8, l9, l10, x => (k_Fi_size x.2.2.2.2.1.1.1).bind fun o5 => (if l10 < o5 then (k_En_inOrder x.2.2.2.2.1.1 l10).bind fun o7 => (k_Fi_areFoes x.2.2.2.2.1.1.1 l5 o7).bind fun o8 => (if o8 = l9 then k_EL_spread_87 l1 l2 l3 l4 fu l5 l6 l7 l8 l9 ((l10 + (1 : Int32))) x else (k_EL_isMet x o7 l1 l3 l4).bind fun o10 => (if o10 = 0 then k_EL_spread_87 l1 l2 l3 l4 fu l5 l6 l7 l8 l9 ((l10 + (1 : Int32))) x else (if l7 = (104 : Int32) then (k_Fi_hurt x.2.2.2.2.1.1.1 o7 l8).bind fun o21 => k_EL_spread_87 l1 l2 l3 l4 fu l5 l6 l7 l8 l9 ((l10 + (1 : Int32))) ((x.1, x.2.1, x.2.2.1, x.2.2.2.1, ((o21.2, x.2.2.2.2.1.1.2.1, x.2.2.2.2.1.1.2.2), x.2.2.2.2.1.2.1, x.2.2.2.2.1.2.2.1, x.2.2.2.2.1.2.2.2), x.2.2.2.2.2.1, x.2.2.2.2.2.2)) else (if l7 = (109 : Int32) then (k_Fi_mend x.2.2.2.2.1.1.1 o7 l8).bind fun o20 => k_EL_spread_87 l1 l2 l3 l4 fu l5 l6 l7 l8 l9 ((l10 + (1 : Int32))) ((x.1, x.2.1, x.2.2.1, x.2.2.2.1, ((o20.2, x.2.2.2.2.1.1.2.1, x.2.2.2.2.1.1.2.2), x.2.2.2.2.1.2.1, x.2.2.2.2.1.2.2.1, x.2.2.2.2.1.2.2.2), x.2.2.2.2.2.1, x.2.2.2.2.2.2)) else (k_Fi_isDown x.2.2.2.2.1.1.1 o7).bind fun o14 => (if o14 = 0 then (k_Ta_get 25 100 x.2.2.2.2.1.2.2.1 l1 ((l6 + (2 : Int32)))).bind fun o16 => (k_Ta_get 25 100 x.2.2.2.2.1.2.2.1 l1 ((l6 + (3 : Int32)))).bind fun o17 => (k_Ta_get 25 100 x.2.2.2.2.1.2.2.1 l1 ((l6 + (4 : Int32)))).bind fun o18 => (k_Co_make x.2.2.2.2.1.1.1.1 l8 o7 l5 o16 o17 o18).bind fun o19 => k_EL_spread_87 l1 l2 l3 l4 fu l5 l6 l7 l8 l9 ((l10 + (1 : Int32))) ((x.1, x.2.1, x.2.2.1, x.2.2.2.1, (((o19, x.2.2.2.2.1.1.1.2.1, x.2.2.2.2.1.1.1.2.2), x.2.2.2.2.1.1.2.1, x.2.2.2.2.1.1.2.2), x.2.2.2.2.1.2.1, x.2.2.2.2.1.2.2.1, x.2.2.2.2.1.2.2.2), x.2.2.2.2.2.1, x.2.2.2.2.2.2)) else k_EL_spread_87 l1 l2 l3 l4 fu l5 l6 l7 l8 l9 ((l10 + (1 : Int32))) x))))) else some x)
set_option maxRecDepth 20000 in
theorem w_EL_spread_87 {X : zX} {c : zY} {q : Nat → Nat} {l1 : Int32} {l2 : Int32} {l3 : Int32} {l4 : Int32} {out : zsX} (hX : Ok X zr_EL zb_EL_spread 12 6 c) (hR : Rt X none none (zwX c q out)) : ∀ (fu : Nat) (l5 : Int32) (l6 : Int32) (l7 : Int32) (l8 : Int32) (l9 : Int32) (l10 : Int32) (x : zsX), k_EL_spread_87 l1 l2 l3 l4 fu l5 l6 l7 l8 l9 l10 x = some out → Go X (zwX c q x) [(0, .ref ((q 17))), (1, .int l1), (3, .int l3), (4, .int l4), (5, .int l5), (6, .int l6), (7, .int l7), (8, .int l8), (9, .int l9), (10, .int l10)] 87 [] := by
  intro fu
  induction fu with
  | zero => intro l5 l6 l7 l8 l9 l10 x h; rw [k_EL_spread_87] at h; cases h
  | succ fu ih =>
    intro l5 l6 l7 l8 l9 l10 x h
    rw [k_EL_spread_87] at h
    refine g_iload (pc := 87) hX d_EL_spread_87 9 rfl ?_
    refine g_aload_n (pc := 89) hX d_EL_spread_89 rfl 0 rfl ?_
    refine gf_EL_10 (pc := 90) (v := .ref ((q 12))) hX 3 rfl rfl d_EL_spread_90 ?_
    refine gf_EL_59 (pc := 93) (v := .ref ((q 6))) hX 19 rfl rfl d_EL_spread_93 ?_
    obtain ⟨o5, e5, h⟩ := zbind h
    refine g_cvI (pc := 96)  (st := [.int l10]) (w' := (zwX c q x)) hX zk_Fi_size zs_Fi_size zL_EL_63 (c_Fi_size c q x.2.2.2.2.1.1.1 e5) rfl rfl rfl rfl (sp_EL_Fi_7 c q x) (sp_EL_Fi_7 c q x).symm 13 3 rfl rfl rfl d_EL_spread_96 ?_
    refine g_icmp_ge (pc := 99) (tgt := 283) hX d_EL_spread_99 (by decide) h (fun c6 h => ?_) (fun c6 h => ?_)
    · obtain rfl := Option.some.inj h
      exact g_vret (pc := 283) hX hR d_EL_spread_283
    · refine g_aload_n (pc := 102) hX d_EL_spread_102 rfl 0 rfl ?_
      refine gf_EL_10 (pc := 103) (v := .ref ((q 12))) hX 3 rfl rfl d_EL_spread_103 ?_
      refine gf_EL_97 (pc := 106) (v := .ref ((q 9))) hX 19 rfl rfl d_EL_spread_106 ?_
      refine g_iload (pc := 109) hX d_EL_spread_109 9 rfl ?_
      obtain ⟨o7, e7, h⟩ := zbind h
      refine g_cvI (pc := 111)  (st := []) (w' := (zwX c q x)) hX zk_En_inOrder zs_En_inOrder zL_EL_338 (c_En_inOrder c q x.2.2.2.2.1.1 l10 e7) rfl rfl rfl rfl (sp_EL_En_7 c q x) (sp_EL_En_7 c q x).symm 16 2 rfl rfl rfl d_EL_spread_111 ?_
      refine g_istore (pc := 114) (L' := [(11, .int o7), (0, .ref ((q 17))), (1, .int l1), (3, .int l3), (4, .int l4), (5, .int l5), (6, .int l6), (7, .int l7), (8, .int l8), (9, .int l9), (10, .int l10)]) hX d_EL_spread_114 rfl rfl ?_
      refine g_aload_n (pc := 116) hX d_EL_spread_116 rfl 1 rfl ?_
      refine gf_EL_10 (pc := 117) (v := .ref ((q 12))) hX 3 rfl rfl d_EL_spread_117 ?_
      refine gf_EL_59 (pc := 120) (v := .ref ((q 6))) hX 19 rfl rfl d_EL_spread_120 ?_
      refine g_iload (pc := 123) hX d_EL_spread_123 5 rfl ?_
      refine g_iload (pc := 125) hX d_EL_spread_125 0 rfl ?_
      obtain ⟨o8, e8, h⟩ := zbind h
      refine g_cvI (pc := 127)  (st := []) (w' := (zwX c q x)) hX zk_Fi_areFoes zs_Fi_areFoes zL_EL_322 (c_Fi_areFoes c q x.2.2.2.2.1.1.1 l5 o7 e8) rfl rfl rfl rfl (sp_EL_Fi_7 c q x) (sp_EL_Fi_7 c q x).symm 13 3 rfl rfl rfl d_EL_spread_127 ?_
      refine g_iload (pc := 130) hX d_EL_spread_130 9 rfl ?_
      refine g_icmp_eq (pc := 132) (tgt := 277) hX d_EL_spread_132 (by decide) h (fun c9 h => ?_) (fun c9 h => ?_)
      · refine g_iinc (pc := 277) (q := 10) (L' := [(10, .int ((l10 + (1 : Int32)))), (11, .int o7), (0, .ref ((q 17))), (1, .int l1), (3, .int l3), (4, .int l4), (5, .int l5), (6, .int l6), (7, .int l7), (8, .int l8), (9, .int l9)]) hX d_EL_spread_277 rfl zc_1 rfl rfl ?_
        refine g_goto (pc := 280) (tgt := 87) hX d_EL_spread_280 (by decide) ?_
        refine g_ls (L' := [(0, .ref ((q 17))), (1, .int l1), (3, .int l3), (4, .int l4), (5, .int l5), (6, .int l6), (7, .int l7), (8, .int l8), (9, .int l9), (10, .int ((l10 + (1 : Int32))))]) [2, 3, 4, 5, 6, 7, 8, 9, 10, 0] rfl ?_
        exact ih _ _ _ _ _ _ _ h
      · refine g_aload_n (pc := 135) hX d_EL_spread_135 rfl 1 rfl ?_
        refine g_iload (pc := 136) hX d_EL_spread_136 0 rfl ?_
        refine g_iload_n (pc := 138) hX d_EL_spread_138 rfl 2 rfl ?_
        refine g_iload_n (pc := 139) hX d_EL_spread_139 rfl 3 rfl ?_
        refine g_iload (pc := 140) hX d_EL_spread_140 4 rfl ?_
        obtain ⟨o10, e10, h⟩ := zbind h
        refine g_cvI (pc := 142) (w1 := []) (w2 := []) (st := []) (w' := (zwX c q x)) hX zk_EL_isMet zs_EL_isMet zL_EL_334 (c_EL_isMet c q x o7 l1 l3 l4 e10) rfl rfl rfl rfl (zself _) (zself _).symm 3 9 rfl rfl rfl d_EL_spread_142 ?_
        refine g_if_ne (pc := 145) (tgt := 151) hX d_EL_spread_145 (by decide) h (fun c11 h => ?_) (fun c11 h => ?_)
        · refine g_iload (pc := 151) hX d_EL_spread_151 7 rfl ?_
          refine g_bipush (pc := 153) hX d_EL_spread_153 ze_104 ?_
          refine g_icmp_ne (pc := 155) (tgt := 176) hX d_EL_spread_155 (by decide) h (fun c12 h => ?_) (fun c12 h => ?_)
          · refine g_iload (pc := 176) hX d_EL_spread_176 7 rfl ?_
            refine g_bipush (pc := 178) hX d_EL_spread_178 ze_109 ?_
            refine g_icmp_ne (pc := 180) (tgt := 201) hX d_EL_spread_180 (by decide) h (fun c13 h => ?_) (fun c13 h => ?_)
            · refine g_aload_n (pc := 201) hX d_EL_spread_201 rfl 1 rfl ?_
              refine gf_EL_10 (pc := 202) (v := .ref ((q 12))) hX 3 rfl rfl d_EL_spread_202 ?_
              refine gf_EL_59 (pc := 205) (v := .ref ((q 6))) hX 19 rfl rfl d_EL_spread_205 ?_
              refine g_iload (pc := 208) hX d_EL_spread_208 0 rfl ?_
              obtain ⟨o14, e14, h⟩ := zbind h
              refine g_cvI (pc := 210)  (st := []) (w' := (zwX c q x)) hX zk_Fi_isDown zs_Fi_isDown zL_EL_326 (c_Fi_isDown c q x.2.2.2.2.1.1.1 o7 e14) rfl rfl rfl rfl (sp_EL_Fi_7 c q x) (sp_EL_Fi_7 c q x).symm 13 3 rfl rfl rfl d_EL_spread_210 ?_
              refine g_if_ne (pc := 213) (tgt := 277) hX d_EL_spread_213 (by decide) h (fun c15 h => ?_) (fun c15 h => ?_)
              · refine g_iinc (pc := 277) (q := 10) (L' := [(10, .int ((l10 + (1 : Int32)))), (11, .int o7), (0, .ref ((q 17))), (1, .int l1), (3, .int l3), (4, .int l4), (5, .int l5), (6, .int l6), (7, .int l7), (8, .int l8), (9, .int l9)]) hX d_EL_spread_277 rfl zc_1 rfl rfl ?_
                refine g_goto (pc := 280) (tgt := 87) hX d_EL_spread_280 (by decide) ?_
                refine g_ls (L' := [(0, .ref ((q 17))), (1, .int l1), (3, .int l3), (4, .int l4), (5, .int l5), (6, .int l6), (7, .int l7), (8, .int l8), (9, .int l9), (10, .int ((l10 + (1 : Int32))))]) [2, 3, 4, 5, 6, 7, 8, 9, 10, 0] rfl ?_
                exact ih _ _ _ _ _ _ _ h
              · refine g_aload_n (pc := 216) hX d_EL_spread_216 rfl 1 rfl ?_
                refine gf_EL_10 (pc := 217) (v := .ref ((q 12))) hX 3 rfl rfl d_EL_spread_217 ?_
                refine gf_EL_223 (pc := 220) (v := .ref ((q 2))) hX 19 rfl rfl d_EL_spread_220 ?_
                refine g_iload (pc := 223) hX d_EL_spread_223 8 rfl ?_
                refine g_iload (pc := 225) hX d_EL_spread_225 0 rfl ?_
                refine g_iload (pc := 227) hX d_EL_spread_227 5 rfl ?_
                refine g_aload_n (pc := 229) hX d_EL_spread_229 rfl 1 rfl ?_
                refine gf_EL_10 (pc := 230) (v := .ref ((q 12))) hX 3 rfl rfl d_EL_spread_230 ?_
                refine gf_EL_179 (pc := 233) (v := .ref ((q 15))) hX 19 rfl rfl d_EL_spread_233 ?_
                refine g_iload_n (pc := 236) hX d_EL_spread_236 rfl 2 rfl ?_
                refine g_iload (pc := 237) hX d_EL_spread_237 6 rfl ?_
                refine g_iconst (pc := 239) hX d_EL_spread_239 zc_2 ?_
                refine g_iadd (pc := 240) hX d_EL_spread_240 ?_
                obtain ⟨o16, e16, h⟩ := zbind h
                refine g_cvI (pc := 241)  (st := [.int l5, .int o7, .int l8, .ref ((q 2))]) (w' := (zwX c q x)) hX zk_Ta_get zs_Ta_get zL_EL_84 (c_Ta_get c (q 15) (q 16) 25 100 x.2.2.2.2.1.2.2.1 l1 ((l6 + (2 : Int32))) e16) rfl rfl rfl rfl (sp_EL_Ta_22 c q x) (sp_EL_Ta_22 c q x).symm 22 6 rfl rfl rfl d_EL_spread_241 ?_
                refine g_aload_n (pc := 244) hX d_EL_spread_244 rfl 1 rfl ?_
                refine gf_EL_10 (pc := 245) (v := .ref ((q 12))) hX 3 rfl rfl d_EL_spread_245 ?_
                refine gf_EL_179 (pc := 248) (v := .ref ((q 15))) hX 19 rfl rfl d_EL_spread_248 ?_
                refine g_iload_n (pc := 251) hX d_EL_spread_251 rfl 2 rfl ?_
                refine g_iload (pc := 252) hX d_EL_spread_252 6 rfl ?_
                refine g_iconst (pc := 254) hX d_EL_spread_254 zc_3 ?_
                refine g_iadd (pc := 255) hX d_EL_spread_255 ?_
                obtain ⟨o17, e17, h⟩ := zbind h
                refine g_cvI (pc := 256)  (st := [.int o16, .int l5, .int o7, .int l8, .ref ((q 2))]) (w' := (zwX c q x)) hX zk_Ta_get zs_Ta_get zL_EL_84 (c_Ta_get c (q 15) (q 16) 25 100 x.2.2.2.2.1.2.2.1 l1 ((l6 + (3 : Int32))) e17) rfl rfl rfl rfl (sp_EL_Ta_22 c q x) (sp_EL_Ta_22 c q x).symm 22 6 rfl rfl rfl d_EL_spread_256 ?_
                refine g_aload_n (pc := 259) hX d_EL_spread_259 rfl 1 rfl ?_
                refine gf_EL_10 (pc := 260) (v := .ref ((q 12))) hX 3 rfl rfl d_EL_spread_260 ?_
                refine gf_EL_179 (pc := 263) (v := .ref ((q 15))) hX 19 rfl rfl d_EL_spread_263 ?_
                refine g_iload_n (pc := 266) hX d_EL_spread_266 rfl 2 rfl ?_
                refine g_iload (pc := 267) hX d_EL_spread_267 6 rfl ?_
                refine g_iconst (pc := 269) hX d_EL_spread_269 zc_4 ?_
                refine g_iadd (pc := 270) hX d_EL_spread_270 ?_
                obtain ⟨o18, e18, h⟩ := zbind h
                refine g_cvI (pc := 271)  (st := [.int o17, .int o16, .int l5, .int o7, .int l8, .ref ((q 2))]) (w' := (zwX c q x)) hX zk_Ta_get zs_Ta_get zL_EL_84 (c_Ta_get c (q 15) (q 16) 25 100 x.2.2.2.2.1.2.2.1 l1 ((l6 + (4 : Int32))) e18) rfl rfl rfl rfl (sp_EL_Ta_22 c q x) (sp_EL_Ta_22 c q x).symm 22 6 rfl rfl rfl d_EL_spread_271 ?_
                obtain ⟨o19, e19, h⟩ := zbind h
                refine g_cvV (pc := 274)  (st := []) (w' := (zwX c q ((x.1, x.2.1, x.2.2.1, x.2.2.2.1, (((o19, x.2.2.2.2.1.1.1.2.1, x.2.2.2.2.1.1.1.2.2), x.2.2.2.2.1.1.2.1, x.2.2.2.2.1.1.2.2), x.2.2.2.2.1.2.1, x.2.2.2.2.1.2.2.1, x.2.2.2.2.1.2.2.2), x.2.2.2.2.2.1, x.2.2.2.2.2.2)))) hX zk_Co_make zs_Co_make zL_EL_344 (c_Co_make c q x.2.2.2.2.1.1.1.1 l8 o7 l5 o16 o17 o18 e19) rfl rfl rfl rfl (sp_EL_Co_7 c q x) (sq_EL_Co_7 c q x o19) 9 1 rfl rfl rfl d_EL_spread_274 ?_
                refine g_iinc (pc := 277) (q := 10) (L' := [(10, .int ((l10 + (1 : Int32)))), (11, .int o7), (0, .ref ((q 17))), (1, .int l1), (3, .int l3), (4, .int l4), (5, .int l5), (6, .int l6), (7, .int l7), (8, .int l8), (9, .int l9)]) hX d_EL_spread_277 rfl zc_1 rfl rfl ?_
                refine g_goto (pc := 280) (tgt := 87) hX d_EL_spread_280 (by decide) ?_
                refine g_ls (L' := [(0, .ref ((q 17))), (1, .int l1), (3, .int l3), (4, .int l4), (5, .int l5), (6, .int l6), (7, .int l7), (8, .int l8), (9, .int l9), (10, .int ((l10 + (1 : Int32))))]) [2, 3, 4, 5, 6, 7, 8, 9, 10, 0] rfl ?_
                exact ih _ _ _ _ _ _ _ h
            · refine g_aload_n (pc := 183) hX d_EL_spread_183 rfl 1 rfl ?_
              refine gf_EL_10 (pc := 184) (v := .ref ((q 12))) hX 3 rfl rfl d_EL_spread_184 ?_
              refine gf_EL_59 (pc := 187) (v := .ref ((q 6))) hX 19 rfl rfl d_EL_spread_187 ?_
              refine g_iload (pc := 190) hX d_EL_spread_190 0 rfl ?_
              refine g_iload (pc := 192) hX d_EL_spread_192 8 rfl ?_
              obtain ⟨o20, e20, h⟩ := zbind h
              refine g_cvI (pc := 194)  (st := []) (w' := (zwX c q ((x.1, x.2.1, x.2.2.1, x.2.2.2.1, ((o20.2, x.2.2.2.2.1.1.2.1, x.2.2.2.2.1.1.2.2), x.2.2.2.2.1.2.1, x.2.2.2.2.1.2.2.1, x.2.2.2.2.1.2.2.2), x.2.2.2.2.2.1, x.2.2.2.2.2.2)))) hX zk_Fi_mend zs_Fi_mend zL_EL_341 (c_Fi_mend c q x.2.2.2.2.1.1.1 o7 l8 e20) rfl rfl rfl rfl (sp_EL_Fi_7 c q x) (sq_EL_Fi_7 c q x o20.2) 13 3 rfl rfl rfl d_EL_spread_194 ?_
              refine g_pop (pc := 197) hX d_EL_spread_197 rfl ?_
              refine g_goto (pc := 198) (tgt := 277) hX d_EL_spread_198 (by decide) ?_
              refine g_iinc (pc := 277) (q := 10) (L' := [(10, .int ((l10 + (1 : Int32)))), (11, .int o7), (0, .ref ((q 17))), (1, .int l1), (3, .int l3), (4, .int l4), (5, .int l5), (6, .int l6), (7, .int l7), (8, .int l8), (9, .int l9)]) hX d_EL_spread_277 rfl zc_1 rfl rfl ?_
              refine g_goto (pc := 280) (tgt := 87) hX d_EL_spread_280 (by decide) ?_
              refine g_ls (L' := [(0, .ref ((q 17))), (1, .int l1), (3, .int l3), (4, .int l4), (5, .int l5), (6, .int l6), (7, .int l7), (8, .int l8), (9, .int l9), (10, .int ((l10 + (1 : Int32))))]) [2, 3, 4, 5, 6, 7, 8, 9, 10, 0] rfl ?_
              exact ih _ _ _ _ _ _ _ h
          · refine g_aload_n (pc := 158) hX d_EL_spread_158 rfl 1 rfl ?_
            refine gf_EL_10 (pc := 159) (v := .ref ((q 12))) hX 3 rfl rfl d_EL_spread_159 ?_
            refine gf_EL_59 (pc := 162) (v := .ref ((q 6))) hX 19 rfl rfl d_EL_spread_162 ?_
            refine g_iload (pc := 165) hX d_EL_spread_165 0 rfl ?_
            refine g_iload (pc := 167) hX d_EL_spread_167 8 rfl ?_
            obtain ⟨o21, e21, h⟩ := zbind h
            refine g_cvI (pc := 169)  (st := []) (w' := (zwX c q ((x.1, x.2.1, x.2.2.1, x.2.2.2.1, ((o21.2, x.2.2.2.2.1.1.2.1, x.2.2.2.2.1.1.2.2), x.2.2.2.2.1.2.1, x.2.2.2.2.1.2.2.1, x.2.2.2.2.1.2.2.2), x.2.2.2.2.2.1, x.2.2.2.2.2.2)))) hX zk_Fi_hurt zs_Fi_hurt zL_EL_164 (c_Fi_hurt c q x.2.2.2.2.1.1.1 o7 l8 e21) rfl rfl rfl rfl (sp_EL_Fi_7 c q x) (sq_EL_Fi_7 c q x o21.2) 13 3 rfl rfl rfl d_EL_spread_169 ?_
            refine g_pop (pc := 172) hX d_EL_spread_172 rfl ?_
            refine g_goto (pc := 173) (tgt := 277) hX d_EL_spread_173 (by decide) ?_
            refine g_iinc (pc := 277) (q := 10) (L' := [(10, .int ((l10 + (1 : Int32)))), (11, .int o7), (0, .ref ((q 17))), (1, .int l1), (3, .int l3), (4, .int l4), (5, .int l5), (6, .int l6), (7, .int l7), (8, .int l8), (9, .int l9)]) hX d_EL_spread_277 rfl zc_1 rfl rfl ?_
            refine g_goto (pc := 280) (tgt := 87) hX d_EL_spread_280 (by decide) ?_
            refine g_ls (L' := [(0, .ref ((q 17))), (1, .int l1), (3, .int l3), (4, .int l4), (5, .int l5), (6, .int l6), (7, .int l7), (8, .int l8), (9, .int l9), (10, .int ((l10 + (1 : Int32))))]) [2, 3, 4, 5, 6, 7, 8, 9, 10, 0] rfl ?_
            exact ih _ _ _ _ _ _ _ h
        · refine g_goto (pc := 148) (tgt := 277) hX d_EL_spread_148 (by decide) ?_
          refine g_iinc (pc := 277) (q := 10) (L' := [(10, .int ((l10 + (1 : Int32)))), (11, .int o7), (0, .ref ((q 17))), (1, .int l1), (3, .int l3), (4, .int l4), (5, .int l5), (6, .int l6), (7, .int l7), (8, .int l8), (9, .int l9)]) hX d_EL_spread_277 rfl zc_1 rfl rfl ?_
          refine g_goto (pc := 280) (tgt := 87) hX d_EL_spread_280 (by decide) ?_
          refine g_ls (L' := [(0, .ref ((q 17))), (1, .int l1), (3, .int l3), (4, .int l4), (5, .int l5), (6, .int l6), (7, .int l7), (8, .int l8), (9, .int l9), (10, .int ((l10 + (1 : Int32))))]) [2, 3, 4, 5, 6, 7, 8, 9, 10, 0] rfl ?_
          exact ih _ _ _ _ _ _ _ h
def k_EL_spread (x : zsX) (l1 : Int32) (l2 : Int32) (l3 : Int32) (l4 : Int32) : Option (zsX) := (k_En_current x.2.2.2.2.1.1).bind fun o1 => (k_Ta_get 25 100 x.2.2.2.2.1.2.2.1 l1 (((5 : Int32) + (l2 * (5 : Int32))))).bind fun o2 => (k_Ta_get 25 100 x.2.2.2.2.1.2.2.1 l1 ((((5 : Int32) + (l2 * (5 : Int32))) + (1 : Int32)))).bind fun o3 => (if o2 = (109 : Int32) then k_EL_spread_87 l1 l2 l3 l4 zFu o1 (((5 : Int32) + (l2 * (5 : Int32)))) o2 o3 ((1 : Int32)) ((0 : Int32)) x else (if o2 = (107 : Int32) then (if o3 = (2 : Int32) then k_EL_spread_87 l1 l2 l3 l4 zFu o1 (((5 : Int32) + (l2 * (5 : Int32)))) o2 o3 ((1 : Int32)) ((0 : Int32)) x else (if o3 = (3 : Int32) then k_EL_spread_87 l1 l2 l3 l4 zFu o1 (((5 : Int32) + (l2 * (5 : Int32)))) o2 o3 ((1 : Int32)) ((0 : Int32)) x else k_EL_spread_87 l1 l2 l3 l4 zFu o1 (((5 : Int32) + (l2 * (5 : Int32)))) o2 o3 ((0 : Int32)) ((0 : Int32)) x)) else k_EL_spread_87 l1 l2 l3 l4 zFu o1 (((5 : Int32) + (l2 * (5 : Int32)))) o2 o3 ((0 : Int32)) ((0 : Int32)) x))
set_option maxRecDepth 20000 in
theorem c_EL_spread (c : zY) (q : Nat → Nat) (x : zsX) (l1 : Int32) (l2 : Int32) (l3 : Int32) (l4 : Int32) {out : zsX} (h : k_EL_spread x l1 l2 l3 l4 = some out) : KM zy_EL_spread zb_EL_spread 12 none 6 c [.ref ((q 17)), .int l1, .int l2, .int l3, .int l4] (zwX c q x) (zwX c q out) none := zK_of zp_EL rfl (Nat.le_of_ble_eq_true rfl) (zq_EL c q _ _) (fun X hX hR => by
  show Go X (zwX c q x) [(0, .ref ((q 17))), (1, .int l1), (2, .int l2), (3, .int l3), (4, .int l4)] 0 []
  rw [k_EL_spread] at h
  refine g_aload_n (pc := 0) hX d_EL_spread_0 rfl 0 rfl ?_
  refine gf_EL_10 (pc := 1) (v := .ref ((q 12))) hX 3 rfl rfl d_EL_spread_1 ?_
  refine gf_EL_97 (pc := 4) (v := .ref ((q 9))) hX 19 rfl rfl d_EL_spread_4 ?_
  obtain ⟨o1, e1, h⟩ := zbind h
  refine g_cvI (pc := 7)  (st := []) (w' := (zwX c q x)) hX zk_En_current zs_En_current zL_EL_120 (c_En_current c q x.2.2.2.2.1.1 e1) rfl rfl rfl rfl (sp_EL_En_7 c q x) (sp_EL_En_7 c q x).symm 16 2 rfl rfl rfl d_EL_spread_7 ?_
  refine g_istore (pc := 10) (L' := [(5, .int o1), (0, .ref ((q 17))), (1, .int l1), (2, .int l2), (3, .int l3), (4, .int l4)]) hX d_EL_spread_10 rfl rfl ?_
  refine g_iconst (pc := 12) hX d_EL_spread_12 zc_5 ?_
  refine g_iload_n (pc := 13) hX d_EL_spread_13 rfl 3 rfl ?_
  refine g_iconst (pc := 14) hX d_EL_spread_14 zc_5 ?_
  refine g_imul (pc := 15) hX d_EL_spread_15 ?_
  refine g_iadd (pc := 16) hX d_EL_spread_16 ?_
  refine g_istore (pc := 17) (L' := [(6, .int (((5 : Int32) + (l2 * (5 : Int32))))), (5, .int o1), (0, .ref ((q 17))), (1, .int l1), (2, .int l2), (3, .int l3), (4, .int l4)]) hX d_EL_spread_17 rfl rfl ?_
  refine g_aload_n (pc := 19) hX d_EL_spread_19 rfl 2 rfl ?_
  refine gf_EL_10 (pc := 20) (v := .ref ((q 12))) hX 3 rfl rfl d_EL_spread_20 ?_
  refine gf_EL_179 (pc := 23) (v := .ref ((q 15))) hX 19 rfl rfl d_EL_spread_23 ?_
  refine g_iload_n (pc := 26) hX d_EL_spread_26 rfl 3 rfl ?_
  refine g_iload (pc := 27) hX d_EL_spread_27 0 rfl ?_
  obtain ⟨o2, e2, h⟩ := zbind h
  refine g_cvI (pc := 29)  (st := []) (w' := (zwX c q x)) hX zk_Ta_get zs_Ta_get zL_EL_84 (c_Ta_get c (q 15) (q 16) 25 100 x.2.2.2.2.1.2.2.1 l1 (((5 : Int32) + (l2 * (5 : Int32)))) e2) rfl rfl rfl rfl (sp_EL_Ta_22 c q x) (sp_EL_Ta_22 c q x).symm 22 6 rfl rfl rfl d_EL_spread_29 ?_
  refine g_istore (pc := 32) (L' := [(7, .int o2), (6, .int (((5 : Int32) + (l2 * (5 : Int32))))), (5, .int o1), (0, .ref ((q 17))), (1, .int l1), (2, .int l2), (3, .int l3), (4, .int l4)]) hX d_EL_spread_32 rfl rfl ?_
  refine g_aload_n (pc := 34) hX d_EL_spread_34 rfl 3 rfl ?_
  refine gf_EL_10 (pc := 35) (v := .ref ((q 12))) hX 3 rfl rfl d_EL_spread_35 ?_
  refine gf_EL_179 (pc := 38) (v := .ref ((q 15))) hX 19 rfl rfl d_EL_spread_38 ?_
  refine g_iload_n (pc := 41) hX d_EL_spread_41 rfl 4 rfl ?_
  refine g_iload (pc := 42) hX d_EL_spread_42 1 rfl ?_
  refine g_iconst (pc := 44) hX d_EL_spread_44 zc_1 ?_
  refine g_iadd (pc := 45) hX d_EL_spread_45 ?_
  obtain ⟨o3, e3, h⟩ := zbind h
  refine g_cvI (pc := 46)  (st := []) (w' := (zwX c q x)) hX zk_Ta_get zs_Ta_get zL_EL_84 (c_Ta_get c (q 15) (q 16) 25 100 x.2.2.2.2.1.2.2.1 l1 ((((5 : Int32) + (l2 * (5 : Int32))) + (1 : Int32))) e3) rfl rfl rfl rfl (sp_EL_Ta_22 c q x) (sp_EL_Ta_22 c q x).symm 22 6 rfl rfl rfl d_EL_spread_46 ?_
  refine g_istore (pc := 49) (L' := [(8, .int o3), (7, .int o2), (6, .int (((5 : Int32) + (l2 * (5 : Int32))))), (5, .int o1), (0, .ref ((q 17))), (1, .int l1), (2, .int l2), (3, .int l3), (4, .int l4)]) hX d_EL_spread_49 rfl rfl ?_
  refine g_iload (pc := 51) hX d_EL_spread_51 1 rfl ?_
  refine g_bipush (pc := 53) hX d_EL_spread_53 ze_109 ?_
  refine g_icmp_eq (pc := 55) (tgt := 77) hX d_EL_spread_55 (by decide) h (fun c4 h => ?_) (fun c4 h => ?_)
  · refine g_iconst (pc := 77) hX d_EL_spread_77 zc_1 ?_
    refine g_goto (pc := 78) (tgt := 82) hX d_EL_spread_78 (by decide) ?_
    refine g_istore (pc := 82) (L' := [(9, .int ((1 : Int32))), (8, .int o3), (7, .int o2), (6, .int (((5 : Int32) + (l2 * (5 : Int32))))), (5, .int o1), (0, .ref ((q 17))), (1, .int l1), (2, .int l2), (3, .int l3), (4, .int l4)]) hX d_EL_spread_82 rfl rfl ?_
    refine g_iconst (pc := 84) hX d_EL_spread_84 zc_0 ?_
    refine g_istore (pc := 85) (L' := [(10, .int ((0 : Int32))), (9, .int ((1 : Int32))), (8, .int o3), (7, .int o2), (6, .int (((5 : Int32) + (l2 * (5 : Int32))))), (5, .int o1), (0, .ref ((q 17))), (1, .int l1), (2, .int l2), (3, .int l3), (4, .int l4)]) hX d_EL_spread_85 rfl rfl ?_
    refine g_ls (L' := [(0, .ref ((q 17))), (1, .int l1), (3, .int l3), (4, .int l4), (5, .int o1), (6, .int (((5 : Int32) + (l2 * (5 : Int32))))), (7, .int o2), (8, .int o3), (9, .int ((1 : Int32))), (10, .int ((0 : Int32)))]) [6, 7, 9, 10, 5, 4, 3, 2, 1, 0] rfl ?_
    exact w_EL_spread_87 hX hR _ _ _ _ _ _ _ _ h
  · refine g_iload (pc := 58) hX d_EL_spread_58 1 rfl ?_
    refine g_bipush (pc := 60) hX d_EL_spread_60 ze_107 ?_
    refine g_icmp_ne (pc := 62) (tgt := 81) hX d_EL_spread_62 (by decide) h (fun c22 h => ?_) (fun c22 h => ?_)
    · refine g_iconst (pc := 81) hX d_EL_spread_81 zc_0 ?_
      refine g_istore (pc := 82) (L' := [(9, .int ((0 : Int32))), (8, .int o3), (7, .int o2), (6, .int (((5 : Int32) + (l2 * (5 : Int32))))), (5, .int o1), (0, .ref ((q 17))), (1, .int l1), (2, .int l2), (3, .int l3), (4, .int l4)]) hX d_EL_spread_82 rfl rfl ?_
      refine g_iconst (pc := 84) hX d_EL_spread_84 zc_0 ?_
      refine g_istore (pc := 85) (L' := [(10, .int ((0 : Int32))), (9, .int ((0 : Int32))), (8, .int o3), (7, .int o2), (6, .int (((5 : Int32) + (l2 * (5 : Int32))))), (5, .int o1), (0, .ref ((q 17))), (1, .int l1), (2, .int l2), (3, .int l3), (4, .int l4)]) hX d_EL_spread_85 rfl rfl ?_
      refine g_ls (L' := [(0, .ref ((q 17))), (1, .int l1), (3, .int l3), (4, .int l4), (5, .int o1), (6, .int (((5 : Int32) + (l2 * (5 : Int32))))), (7, .int o2), (8, .int o3), (9, .int ((0 : Int32))), (10, .int ((0 : Int32)))]) [6, 7, 9, 10, 5, 4, 3, 2, 1, 0] rfl ?_
      exact w_EL_spread_87 hX hR _ _ _ _ _ _ _ _ h
    · refine g_iload (pc := 65) hX d_EL_spread_65 0 rfl ?_
      refine g_iconst (pc := 67) hX d_EL_spread_67 zc_2 ?_
      refine g_icmp_eq (pc := 68) (tgt := 77) hX d_EL_spread_68 (by decide) h (fun c23 h => ?_) (fun c23 h => ?_)
      · refine g_iconst (pc := 77) hX d_EL_spread_77 zc_1 ?_
        refine g_goto (pc := 78) (tgt := 82) hX d_EL_spread_78 (by decide) ?_
        refine g_istore (pc := 82) (L' := [(9, .int ((1 : Int32))), (8, .int o3), (7, .int o2), (6, .int (((5 : Int32) + (l2 * (5 : Int32))))), (5, .int o1), (0, .ref ((q 17))), (1, .int l1), (2, .int l2), (3, .int l3), (4, .int l4)]) hX d_EL_spread_82 rfl rfl ?_
        refine g_iconst (pc := 84) hX d_EL_spread_84 zc_0 ?_
        refine g_istore (pc := 85) (L' := [(10, .int ((0 : Int32))), (9, .int ((1 : Int32))), (8, .int o3), (7, .int o2), (6, .int (((5 : Int32) + (l2 * (5 : Int32))))), (5, .int o1), (0, .ref ((q 17))), (1, .int l1), (2, .int l2), (3, .int l3), (4, .int l4)]) hX d_EL_spread_85 rfl rfl ?_
        refine g_ls (L' := [(0, .ref ((q 17))), (1, .int l1), (3, .int l3), (4, .int l4), (5, .int o1), (6, .int (((5 : Int32) + (l2 * (5 : Int32))))), (7, .int o2), (8, .int o3), (9, .int ((1 : Int32))), (10, .int ((0 : Int32)))]) [6, 7, 9, 10, 5, 4, 3, 2, 1, 0] rfl ?_
        exact w_EL_spread_87 hX hR _ _ _ _ _ _ _ _ h
      · refine g_iload (pc := 71) hX d_EL_spread_71 0 rfl ?_
        refine g_iconst (pc := 73) hX d_EL_spread_73 zc_3 ?_
        refine g_icmp_ne (pc := 74) (tgt := 81) hX d_EL_spread_74 (by decide) h (fun c24 h => ?_) (fun c24 h => ?_)
        · refine g_iconst (pc := 81) hX d_EL_spread_81 zc_0 ?_
          refine g_istore (pc := 82) (L' := [(9, .int ((0 : Int32))), (8, .int o3), (7, .int o2), (6, .int (((5 : Int32) + (l2 * (5 : Int32))))), (5, .int o1), (0, .ref ((q 17))), (1, .int l1), (2, .int l2), (3, .int l3), (4, .int l4)]) hX d_EL_spread_82 rfl rfl ?_
          refine g_iconst (pc := 84) hX d_EL_spread_84 zc_0 ?_
          refine g_istore (pc := 85) (L' := [(10, .int ((0 : Int32))), (9, .int ((0 : Int32))), (8, .int o3), (7, .int o2), (6, .int (((5 : Int32) + (l2 * (5 : Int32))))), (5, .int o1), (0, .ref ((q 17))), (1, .int l1), (2, .int l2), (3, .int l3), (4, .int l4)]) hX d_EL_spread_85 rfl rfl ?_
          refine g_ls (L' := [(0, .ref ((q 17))), (1, .int l1), (3, .int l3), (4, .int l4), (5, .int o1), (6, .int (((5 : Int32) + (l2 * (5 : Int32))))), (7, .int o2), (8, .int o3), (9, .int ((0 : Int32))), (10, .int ((0 : Int32)))]) [6, 7, 9, 10, 5, 4, 3, 2, 1, 0] rfl ?_
          exact w_EL_spread_87 hX hR _ _ _ _ _ _ _ _ h
        · refine g_iconst (pc := 77) hX d_EL_spread_77 zc_1 ?_
          refine g_goto (pc := 78) (tgt := 82) hX d_EL_spread_78 (by decide) ?_
          refine g_istore (pc := 82) (L' := [(9, .int ((1 : Int32))), (8, .int o3), (7, .int o2), (6, .int (((5 : Int32) + (l2 * (5 : Int32))))), (5, .int o1), (0, .ref ((q 17))), (1, .int l1), (2, .int l2), (3, .int l3), (4, .int l4)]) hX d_EL_spread_82 rfl rfl ?_
          refine g_iconst (pc := 84) hX d_EL_spread_84 zc_0 ?_
          refine g_istore (pc := 85) (L' := [(10, .int ((0 : Int32))), (9, .int ((1 : Int32))), (8, .int o3), (7, .int o2), (6, .int (((5 : Int32) + (l2 * (5 : Int32))))), (5, .int o1), (0, .ref ((q 17))), (1, .int l1), (2, .int l2), (3, .int l3), (4, .int l4)]) hX d_EL_spread_85 rfl rfl ?_
          refine g_ls (L' := [(0, .ref ((q 17))), (1, .int l1), (3, .int l3), (4, .int l4), (5, .int o1), (6, .int (((5 : Int32) + (l2 * (5 : Int32))))), (7, .int o2), (8, .int o3), (9, .int ((1 : Int32))), (10, .int ((0 : Int32)))]) [6, 7, 9, 10, 5, 4, 3, 2, 1, 0] rfl ?_
          exact w_EL_spread_87 hX hR _ _ _ _ _ _ _ _ h)
