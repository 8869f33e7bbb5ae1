theorem d_Fi_size_0 : decode zb_Fi_size 0 = .ok (.aload_n 0, 1) := by decide +kernel
theorem d_Fi_size_1 : decode zb_Fi_size 1 = .ok (.getfield 16, 3) := by decide +kernel
theorem d_Fi_size_4 : decode zb_Fi_size 4 = .ok (.invokevirtual 28, 3) := by decide +kernel
theorem d_Fi_size_7 : decode zb_Fi_size 7 = .ok (.ireturn, 1) := by decide +kernel
def k_Fi_size (x : zsF) : Option (Int32) := (k_Ta_used 13 104 x.2.1).bind fun o1 => some o1
set_option maxRecDepth 20000 in
theorem c_Fi_size (c : zY) (q : Nat → Nat) (x : zsF) {out : Int32} (h : k_Fi_size x = some out) : KM zy_Fi_size zb_Fi_size 1 (some .int) 1 c [.ref ((q 6))] (zwF c q x) (zwF c q x) (some (.int out)) := zK_of zp_Fi rfl (Nat.le_of_ble_eq_true rfl) (zq_Fi c q _ _) (fun X hX hR => by
  show Go X (zwF c q x) [(0, .ref ((q 6)))] 0 []
  rw [k_Fi_size] at h
  refine g_aload_n (pc := 0) hX d_Fi_size_0 rfl 0 rfl ?_
  refine gf_Fi_16 (pc := 1) (v := .ref ((q 7))) hX 6 rfl rfl d_Fi_size_1 ?_
  obtain ⟨o1, e1, h⟩ := zbind h
  refine g_cvI (pc := 4)  (st := []) (w' := (zwF c q x)) hX zk_Ta_used zs_Ta_used zL_Fi_28 (c_Ta_used c (q 7) (q 8) 13 104 x.2.1 e1) rfl rfl rfl rfl (sp_Fi_Ta_7 c q x) (sp_Fi_Ta_7 c q x).symm 7 6 rfl rfl rfl d_Fi_size_4 ?_
  obtain rfl := Option.some.inj h
  exact g_iret (pc := 7) hX hR d_Fi_size_7)
theorem d_Fi_has_0 : decode zb_Fi_has 0 = .ok (.aload_n 0, 1) := by decide +kernel
theorem d_Fi_has_1 : decode zb_Fi_has 1 = .ok (.getfield 16, 3) := by decide +kernel
theorem d_Fi_has_4 : decode zb_Fi_has 4 = .ok (.iload_n 1, 1) := by decide +kernel
theorem d_Fi_has_5 : decode zb_Fi_has 5 = .ok (.invokevirtual 32, 3) := by decide +kernel
theorem d_Fi_has_8 : decode zb_Fi_has 8 = .ok (.ireturn, 1) := by decide +kernel
def k_Fi_has (x : zsF) (l1 : Int32) : Option (Int32) := (k_Ta_holds 13 104 x.2.1 l1).bind fun o1 => (if o1 = 0 ∨ o1 = 1 then some o1 else none)
set_option maxRecDepth 20000 in
theorem c_Fi_has (c : zY) (q : Nat → Nat) (x : zsF) (l1 : Int32) {out : Int32} (h : k_Fi_has x l1 = some out) : KM zy_Fi_has zb_Fi_has 2 (some .boolean) 1 c [.ref ((q 6)), .int l1] (zwF c q x) (zwF c q x) (some (.int out)) := zK_of zp_Fi rfl (Nat.le_of_ble_eq_true rfl) (zq_Fi c q _ _) (fun X hX hR => by
  show Go X (zwF c q x) [(0, .ref ((q 6))), (1, .int l1)] 0 []
  rw [k_Fi_has] at h
  refine g_aload_n (pc := 0) hX d_Fi_has_0 rfl 0 rfl ?_
  refine gf_Fi_16 (pc := 1) (v := .ref ((q 7))) hX 6 rfl rfl d_Fi_has_1 ?_
  refine g_iload_n (pc := 4) hX d_Fi_has_4 rfl 1 rfl ?_
  obtain ⟨o1, e1, h⟩ := zbind h
  refine g_cvI (pc := 5)  (st := []) (w' := (zwF c q x)) hX zk_Ta_holds zs_Ta_holds zL_Fi_32 (c_Ta_holds c (q 7) (q 8) 13 104 x.2.1 l1 e1) rfl rfl rfl rfl (sp_Fi_Ta_7 c q x) (sp_Fi_Ta_7 c q x).symm 7 6 rfl rfl rfl d_Fi_has_5 ?_
  obtain ⟨hb2, h⟩ := zifb h
  obtain rfl := Option.some.inj h
  exact g_zret (pc := 8) hX hR hb2 d_Fi_has_8)
theorem d_Fi_at_0 : decode zb_Fi_at 0 = .ok (.aload_n 0, 1) := by decide +kernel
theorem d_Fi_at_1 : decode zb_Fi_at 1 = .ok (.getfield 16, 3) := by decide +kernel
theorem d_Fi_at_4 : decode zb_Fi_at 4 = .ok (.iload_n 1, 1) := by decide +kernel
theorem d_Fi_at_5 : decode zb_Fi_at 5 = .ok (.iload_n 2, 1) := by decide +kernel
theorem d_Fi_at_6 : decode zb_Fi_at 6 = .ok (.invokevirtual 36, 3) := by decide +kernel
theorem d_Fi_at_9 : decode zb_Fi_at 9 = .ok (.ireturn, 1) := by decide +kernel
def k_Fi_at (x : zsF) (l1 : Int32) (l2 : Int32) : Option (Int32) := (k_Ta_get 13 104 x.2.1 l1 l2).bind fun o1 => some o1
set_option maxRecDepth 20000 in
theorem c_Fi_at (c : zY) (q : Nat → Nat) (x : zsF) (l1 : Int32) (l2 : Int32) {out : Int32} (h : k_Fi_at x l1 l2 = some out) : KM zy_Fi_at zb_Fi_at 3 (some .int) 1 c [.ref ((q 6)), .int l1, .int l2] (zwF c q x) (zwF c q x) (some (.int out)) := zK_of zp_Fi rfl (Nat.le_of_ble_eq_true rfl) (zq_Fi c q _ _) (fun X hX hR => by
  show Go X (zwF c q x) [(0, .ref ((q 6))), (1, .int l1), (2, .int l2)] 0 []
  rw [k_Fi_at] at h
  refine g_aload_n (pc := 0) hX d_Fi_at_0 rfl 0 rfl ?_
  refine gf_Fi_16 (pc := 1) (v := .ref ((q 7))) hX 6 rfl rfl d_Fi_at_1 ?_
  refine g_iload_n (pc := 4) hX d_Fi_at_4 rfl 1 rfl ?_
  refine g_iload_n (pc := 5) hX d_Fi_at_5 rfl 2 rfl ?_
  obtain ⟨o1, e1, h⟩ := zbind h
  refine g_cvI (pc := 6)  (st := []) (w' := (zwF c q x)) hX zk_Ta_get zs_Ta_get zL_Fi_36 (c_Ta_get c (q 7) (q 8) 13 104 x.2.1 l1 l2 e1) rfl rfl rfl rfl (sp_Fi_Ta_7 c q x) (sp_Fi_Ta_7 c q x).symm 7 6 rfl rfl rfl d_Fi_at_6 ?_
  obtain rfl := Option.some.inj h
  exact g_iret (pc := 9) hX hR d_Fi_at_9)
theorem d_Fi_put_0 : decode zb_Fi_put 0 = .ok (.aload_n 0, 1) := by decide +kernel
theorem d_Fi_put_1 : decode zb_Fi_put 1 = .ok (.getfield 16, 3) := by decide +kernel
theorem d_Fi_put_4 : decode zb_Fi_put 4 = .ok (.iload_n 1, 1) := by decide +kernel
theorem d_Fi_put_5 : decode zb_Fi_put 5 = .ok (.iload_n 2, 1) := by decide +kernel
theorem d_Fi_put_6 : decode zb_Fi_put 6 = .ok (.iload_n 3, 1) := by decide +kernel
theorem d_Fi_put_7 : decode zb_Fi_put 7 = .ok (.invokevirtual 40, 3) := by decide +kernel
theorem d_Fi_put_10 : decode zb_Fi_put 10 = .ok (.return_, 1) := by decide +kernel
def k_Fi_put (x : zsF) (l1 : Int32) (l2 : Int32) (l3 : Int32) : Option (zsF) := (k_Ta_set 13 104 x.2.1 l1 l2 l3).bind fun o1 => some ((x.1, o1, x.2.2))
set_option maxRecDepth 20000 in
theorem c_Fi_put (c : zY) (q : Nat → Nat) (x : zsF) (l1 : Int32) (l2 : Int32) (l3 : Int32) {out : zsF} (h : k_Fi_put x l1 l2 l3 = some out) : KM zy_Fi_put zb_Fi_put 4 none 1 c [.ref ((q 6)), .int l1, .int l2, .int l3] (zwF c q x) (zwF c q out) none := zK_of zp_Fi rfl (Nat.le_of_ble_eq_true rfl) (zq_Fi c q _ _) (fun X hX hR => by
  show Go X (zwF c q x) [(0, .ref ((q 6))), (1, .int l1), (2, .int l2), (3, .int l3)] 0 []
  rw [k_Fi_put] at h
  refine g_aload_n (pc := 0) hX d_Fi_put_0 rfl 0 rfl ?_
  refine gf_Fi_16 (pc := 1) (v := .ref ((q 7))) hX 6 rfl rfl d_Fi_put_1 ?_
  refine g_iload_n (pc := 4) hX d_Fi_put_4 rfl 1 rfl ?_
  refine g_iload_n (pc := 5) hX d_Fi_put_5 rfl 2 rfl ?_
  refine g_iload_n (pc := 6) hX d_Fi_put_6 rfl 3 rfl ?_
  obtain ⟨o1, e1, h⟩ := zbind h
  refine g_cvV (pc := 7)  (st := []) (w' := (zwF c q ((x.1, o1, x.2.2)))) hX zk_Ta_set zs_Ta_set zL_Fi_40 (c_Ta_set c (q 7) (q 8) 13 104 x.2.1 l1 l2 l3 e1) rfl rfl rfl rfl (sp_Fi_Ta_7 c q x) (sq_Fi_Ta_7 c q x o1) 7 6 rfl rfl rfl d_Fi_put_7 ?_
  obtain rfl := Option.some.inj h
  exact g_vret (pc := 10) hX hR d_Fi_put_10)
theorem d_Fi_join_0 : decode zb_Fi_join 0 = .ok (.aload_n 0, 1) := by decide +kernel
theorem d_Fi_join_1 : decode zb_Fi_join 1 = .ok (.getfield 16, 3) := by decide +kernel
theorem d_Fi_join_4 : decode zb_Fi_join 4 = .ok (.invokevirtual 43, 3) := by decide +kernel
theorem d_Fi_join_7 : decode zb_Fi_join 7 = .ok (.istore 6, 2) := by decide +kernel
theorem d_Fi_join_9 : decode zb_Fi_join 9 = .ok (.aload_n 0, 1) := by decide +kernel
theorem d_Fi_join_10 : decode zb_Fi_join 10 = .ok (.getfield 16, 3) := by decide +kernel
theorem d_Fi_join_13 : decode zb_Fi_join 13 = .ok (.iload 6, 2) := by decide +kernel
theorem d_Fi_join_15 : decode zb_Fi_join 15 = .ok (.iconst 0, 1) := by decide +kernel
theorem d_Fi_join_16 : decode zb_Fi_join 16 = .ok (.iload_n 1, 1) := by decide +kernel
theorem d_Fi_join_17 : decode zb_Fi_join 17 = .ok (.invokevirtual 40, 3) := by decide +kernel
theorem d_Fi_join_20 : decode zb_Fi_join 20 = .ok (.aload_n 0, 1) := by decide +kernel
theorem d_Fi_join_21 : decode zb_Fi_join 21 = .ok (.getfield 16, 3) := by decide +kernel
theorem d_Fi_join_24 : decode zb_Fi_join 24 = .ok (.iload 6, 2) := by decide +kernel
theorem d_Fi_join_26 : decode zb_Fi_join 26 = .ok (.iconst 1, 1) := by decide +kernel
theorem d_Fi_join_27 : decode zb_Fi_join 27 = .ok (.iload_n 2, 1) := by decide +kernel
theorem d_Fi_join_28 : decode zb_Fi_join 28 = .ok (.invokevirtual 40, 3) := by decide +kernel
theorem d_Fi_join_31 : decode zb_Fi_join 31 = .ok (.aload_n 0, 1) := by decide +kernel
theorem d_Fi_join_32 : decode zb_Fi_join 32 = .ok (.getfield 16, 3) := by decide +kernel
theorem d_Fi_join_35 : decode zb_Fi_join 35 = .ok (.iload 6, 2) := by decide +kernel
theorem d_Fi_join_37 : decode zb_Fi_join 37 = .ok (.iconst 2, 1) := by decide +kernel
theorem d_Fi_join_38 : decode zb_Fi_join 38 = .ok (.iload_n 3, 1) := by decide +kernel
theorem d_Fi_join_39 : decode zb_Fi_join 39 = .ok (.invokevirtual 40, 3) := by decide +kernel
theorem d_Fi_join_42 : decode zb_Fi_join 42 = .ok (.aload_n 0, 1) := by decide +kernel
theorem d_Fi_join_43 : decode zb_Fi_join 43 = .ok (.getfield 16, 3) := by decide +kernel
theorem d_Fi_join_46 : decode zb_Fi_join 46 = .ok (.iload 6, 2) := by decide +kernel
theorem d_Fi_join_48 : decode zb_Fi_join 48 = .ok (.iconst 3, 1) := by decide +kernel
theorem d_Fi_join_49 : decode zb_Fi_join 49 = .ok (.iload_n 3, 1) := by decide +kernel
theorem d_Fi_join_50 : decode zb_Fi_join 50 = .ok (.invokevirtual 40, 3) := by decide +kernel
theorem d_Fi_join_53 : decode zb_Fi_join 53 = .ok (.aload_n 0, 1) := by decide +kernel
theorem d_Fi_join_54 : decode zb_Fi_join 54 = .ok (.getfield 16, 3) := by decide +kernel
theorem d_Fi_join_57 : decode zb_Fi_join 57 = .ok (.iload 6, 2) := by decide +kernel
theorem d_Fi_join_59 : decode zb_Fi_join 59 = .ok (.iconst 4, 1) := by decide +kernel
theorem d_Fi_join_60 : decode zb_Fi_join 60 = .ok (.iload 4, 2) := by decide +kernel
theorem d_Fi_join_62 : decode zb_Fi_join 62 = .ok (.invokevirtual 40, 3) := by decide +kernel
theorem d_Fi_join_65 : decode zb_Fi_join 65 = .ok (.aload_n 0, 1) := by decide +kernel
theorem d_Fi_join_66 : decode zb_Fi_join 66 = .ok (.getfield 16, 3) := by decide +kernel
theorem d_Fi_join_69 : decode zb_Fi_join 69 = .ok (.iload 6, 2) := by decide +kernel
theorem d_Fi_join_71 : decode zb_Fi_join 71 = .ok (.iconst 5, 1) := by decide +kernel
theorem d_Fi_join_72 : decode zb_Fi_join 72 = .ok (.iload 5, 2) := by decide +kernel
theorem d_Fi_join_74 : decode zb_Fi_join 74 = .ok (.invokevirtual 40, 3) := by decide +kernel
theorem d_Fi_join_77 : decode zb_Fi_join 77 = .ok (.aload_n 0, 1) := by decide +kernel
theorem d_Fi_join_78 : decode zb_Fi_join 78 = .ok (.getfield 16, 3) := by decide +kernel
theorem d_Fi_join_81 : decode zb_Fi_join 81 = .ok (.iload 6, 2) := by decide +kernel
theorem d_Fi_join_83 : decode zb_Fi_join 83 = .ok (.bipush 6, 2) := by decide +kernel
theorem d_Fi_join_85 : decode zb_Fi_join 85 = .ok (.bipush (-5), 2) := by decide +kernel
theorem d_Fi_join_87 : decode zb_Fi_join 87 = .ok (.invokevirtual 40, 3) := by decide +kernel
theorem d_Fi_join_90 : decode zb_Fi_join 90 = .ok (.iconst 0, 1) := by decide +kernel
theorem d_Fi_join_91 : decode zb_Fi_join 91 = .ok (.istore 7, 2) := by decide +kernel
theorem d_Fi_join_93 : decode zb_Fi_join 93 = .ok (.iload 7, 2) := by decide +kernel
theorem d_Fi_join_95 : decode zb_Fi_join 95 = .ok (.iconst 3, 1) := by decide +kernel
theorem d_Fi_join_96 : decode zb_Fi_join 96 = .ok (.if_icmp .ge 63, 3) := by decide +kernel
theorem d_Fi_join_99 : decode zb_Fi_join 99 = .ok (.iload 7, 2) := by decide +kernel
theorem d_Fi_join_101 : decode zb_Fi_join 101 = .ok (.ifCond .ne 7, 3) := by decide +kernel
theorem d_Fi_join_104 : decode zb_Fi_join 104 = .ok (.iconst 2, 1) := by decide +kernel
theorem d_Fi_join_105 : decode zb_Fi_join 105 = .ok (.goto 14, 3) := by decide +kernel
theorem d_Fi_join_108 : decode zb_Fi_join 108 = .ok (.iload 7, 2) := by decide +kernel
theorem d_Fi_join_110 : decode zb_Fi_join 110 = .ok (.iconst 1, 1) := by decide +kernel
theorem d_Fi_join_111 : decode zb_Fi_join 111 = .ok (.if_icmp .ne 7, 3) := by decide +kernel
theorem d_Fi_join_114 : decode zb_Fi_join 114 = .ok (.iconst 3, 1) := by decide +kernel
theorem d_Fi_join_115 : decode zb_Fi_join 115 = .ok (.goto 4, 3) := by decide +kernel
theorem d_Fi_join_118 : decode zb_Fi_join 118 = .ok (.iconst 1, 1) := by decide +kernel
theorem d_Fi_join_119 : decode zb_Fi_join 119 = .ok (.istore 8, 2) := by decide +kernel
theorem d_Fi_join_121 : decode zb_Fi_join 121 = .ok (.aload_n 0, 1) := by decide +kernel
theorem d_Fi_join_122 : decode zb_Fi_join 122 = .ok (.getfield 16, 3) := by decide +kernel
theorem d_Fi_join_125 : decode zb_Fi_join 125 = .ok (.iload 6, 2) := by decide +kernel
theorem d_Fi_join_127 : decode zb_Fi_join 127 = .ok (.bipush 7, 2) := by decide +kernel
theorem d_Fi_join_129 : decode zb_Fi_join 129 = .ok (.iload 7, 2) := by decide +kernel
theorem d_Fi_join_131 : decode zb_Fi_join 131 = .ok (.iadd, 1) := by decide +kernel
theorem d_Fi_join_132 : decode zb_Fi_join 132 = .ok (.iload 8, 2) := by decide +kernel
theorem d_Fi_join_134 : decode zb_Fi_join 134 = .ok (.invokevirtual 40, 3) := by decide +kernel
theorem d_Fi_join_137 : decode zb_Fi_join 137 = .ok (.aload_n 0, 1) := by decide +kernel
theorem d_Fi_join_138 : decode zb_Fi_join 138 = .ok (.getfield 16, 3) := by decide +kernel
theorem d_Fi_join_141 : decode zb_Fi_join 141 = .ok (.iload 6, 2) := by decide +kernel
theorem d_Fi_join_143 : decode zb_Fi_join 143 = .ok (.bipush 10, 2) := by decide +kernel
theorem d_Fi_join_145 : decode zb_Fi_join 145 = .ok (.iload 7, 2) := by decide +kernel
theorem d_Fi_join_147 : decode zb_Fi_join 147 = .ok (.iadd, 1) := by decide +kernel
theorem d_Fi_join_148 : decode zb_Fi_join 148 = .ok (.iload 8, 2) := by decide +kernel
theorem d_Fi_join_150 : decode zb_Fi_join 150 = .ok (.invokevirtual 40, 3) := by decide +kernel
theorem d_Fi_join_153 : decode zb_Fi_join 153 = .ok (.iinc 7 1, 3) := by decide +kernel
theorem d_Fi_join_156 : decode zb_Fi_join 156 = .ok (.goto (-63), 3) := by decide +kernel
theorem d_Fi_join_159 : decode zb_Fi_join 159 = .ok (.aload_n 0, 1) := by decide +kernel
theorem d_Fi_join_160 : decode zb_Fi_join 160 = .ok (.getfield 24, 3) := by decide +kernel
theorem d_Fi_join_163 : decode zb_Fi_join 163 = .ok (.iconst 0, 1) := by decide +kernel
theorem d_Fi_join_164 : decode zb_Fi_join 164 = .ok (.iload 6, 2) := by decide +kernel
theorem d_Fi_join_166 : decode zb_Fi_join 166 = .ok (.iload_n 3, 1) := by decide +kernel
theorem d_Fi_join_167 : decode zb_Fi_join 167 = .ok (.invokevirtual 46, 3) := by decide +kernel
theorem d_Fi_join_170 : decode zb_Fi_join 170 = .ok (.iload 6, 2) := by decide +kernel
theorem d_Fi_join_172 : decode zb_Fi_join 172 = .ok (.ireturn, 1) := by decide +kernel
def k_Fi_join_119 (l1 : Int32) (l2 : Int32) (l3 : Int32) (l4 : Int32) (l5 : Int32) (kf_93 : Int32 → Int32 → zsF → Option (Int32 × zsF)) (l6 : Int32) (l7 : Int32) (s0 : Int32) (x : zsF) : Option (Int32 × zsF) := (k_Ta_set 13 104 x.2.1 l6 (((7 : Int32) + l7)) s0).bind fun o13 => (k_Ta_set 13 104 o13 l6 (((10 : Int32) + l7)) s0).bind fun o14 => kf_93 l6 ((l7 + (1 : Int32))) ((x.1, o14, x.2.2))
set_option maxRecDepth 20000 in
theorem w_Fi_join_119 {X : zX} {c : zY} {q : Nat → Nat} {l1 : Int32} {l2 : Int32} {l3 : Int32} {l4 : Int32} {l5 : Int32} {out : Int32 × zsF} {kf_93 : Int32 → Int32 → zsF → Option (Int32 × zsF)} (hX : Ok X zr_Fi zb_Fi_join 9 1 c) (hR : Rt X (some .int) (some (.int out.1)) (zwF c q out.2)) (hk_93 : ∀ (l6 : Int32) (l7 : Int32) (x : zsF), kf_93 l6 l7 x = some out → Go X (zwF c q x) [(0, .ref ((q 6))), (3, .int l3), (6, .int l6), (7, .int l7)] 93 []) : ∀ (l6 : Int32) (l7 : Int32) (s0 : Int32) (x : zsF), k_Fi_join_119 l1 l2 l3 l4 l5 kf_93 l6 l7 s0 x = some out → Go X (zwF c q x) [(0, .ref ((q 6))), (3, .int l3), (6, .int l6), (7, .int l7)] 119 [.int s0] := by
  intro l6 l7 s0 x h
  rw [k_Fi_join_119] at h
  refine g_istore (pc := 119) (L' := [(8, .int s0), (0, .ref ((q 6))), (3, .int l3), (6, .int l6), (7, .int l7)]) hX d_Fi_join_119 rfl rfl ?_
  refine g_aload_n (pc := 121) hX d_Fi_join_121 rfl 1 rfl ?_
  refine gf_Fi_16 (pc := 122) (v := .ref ((q 7))) hX 6 rfl rfl d_Fi_join_122 ?_
  refine g_iload (pc := 125) hX d_Fi_join_125 3 rfl ?_
  refine g_bipush (pc := 127) hX d_Fi_join_127 ze_7 ?_
  refine g_iload (pc := 129) hX d_Fi_join_129 4 rfl ?_
  refine g_iadd (pc := 131) hX d_Fi_join_131 ?_
  refine g_iload (pc := 132) hX d_Fi_join_132 0 rfl ?_
  obtain ⟨o13, e13, h⟩ := zbind h
  refine g_cvV (pc := 134)  (st := []) (w' := (zwF c q ((x.1, o13, x.2.2)))) hX zk_Ta_set zs_Ta_set zL_Fi_40 (c_Ta_set c (q 7) (q 8) 13 104 x.2.1 l6 (((7 : Int32) + l7)) s0 e13) rfl rfl rfl rfl (sp_Fi_Ta_7 c q x) (sq_Fi_Ta_7 c q x o13) 7 6 rfl rfl rfl d_Fi_join_134 ?_
  refine g_aload_n (pc := 137) hX d_Fi_join_137 rfl 1 rfl ?_
  refine gf_Fi_16 (pc := 138) (v := .ref ((q 7))) hX 6 rfl rfl d_Fi_join_138 ?_
  refine g_iload (pc := 141) hX d_Fi_join_141 3 rfl ?_
  refine g_bipush (pc := 143) hX d_Fi_join_143 ze_10 ?_
  refine g_iload (pc := 145) hX d_Fi_join_145 4 rfl ?_
  refine g_iadd (pc := 147) hX d_Fi_join_147 ?_
  refine g_iload (pc := 148) hX d_Fi_join_148 0 rfl ?_
  obtain ⟨o14, e14, h⟩ := zbind h
  refine g_cvV (pc := 150)  (st := []) (w' := (zwF c q ((x.1, o14, x.2.2)))) hX zk_Ta_set zs_Ta_set zL_Fi_40 (c_Ta_set c (q 7) (q 8) 13 104 o13 l6 (((10 : Int32) + l7)) s0 e14) rfl rfl rfl rfl (sp_Fi_Ta_7 c q ((x.1, o13, x.2.2))) (sq_Fi_Ta_7 c q ((x.1, o13, x.2.2)) o14) 7 6 rfl rfl rfl d_Fi_join_150 ?_
  refine g_iinc (pc := 153) (q := 4) (L' := [(7, .int ((l7 + (1 : Int32)))), (8, .int s0), (0, .ref ((q 6))), (3, .int l3), (6, .int l6)]) hX d_Fi_join_153 rfl zc_1 rfl rfl ?_
  refine g_goto (pc := 156) (tgt := 93) hX d_Fi_join_156 (by decide) ?_
  refine g_ls (L' := [(0, .ref ((q 6))), (3, .int l3), (6, .int l6), (7, .int ((l7 + (1 : Int32))))]) [2, 3, 4, 0] rfl ?_
  exact hk_93 _ _ _ h
def k_Fi_join_93 (l1 : Int32) (l2 : Int32) (l3 : Int32) (l4 : Int32) (l5 : Int32) : Nat → Int32 → Int32 → zsF → Option (Int32 × zsF)
  | 0, _, _, _ => none
  | fu + 1, l6, l7, x => (if l7 < (3 : Int32) then (if l7 = 0 then k_Fi_join_119 l1 l2 l3 l4 l5 (k_Fi_join_93 l1 l2 l3 l4 l5 fu) l6 l7 ((2 : Int32)) x else (if l7 = (1 : Int32) then k_Fi_join_119 l1 l2 l3 l4 l5 (k_Fi_join_93 l1 l2 l3 l4 l5 fu) l6 l7 ((3 : Int32)) x else k_Fi_join_119 l1 l2 l3 l4 l5 (k_Fi_join_93 l1 l2 l3 l4 l5 fu) l6 l7 ((1 : Int32)) x)) else (k_Jo_write x.1.1 ((0 : Int32)) l6 l3).bind fun o10 => some (l6, ((o10, x.1.2.1, x.1.2.2), x.2.1, x.2.2)))
set_option maxRecDepth 20000 in
theorem w_Fi_join_93 {X : zX} {c : zY} {q : Nat → Nat} {l1 : Int32} {l2 : Int32} {l3 : Int32} {l4 : Int32} {l5 : Int32} {out : Int32 × zsF} (hX : Ok X zr_Fi zb_Fi_join 9 1 c) (hR : Rt X (some .int) (some (.int out.1)) (zwF c q out.2)) : ∀ (fu : Nat) (l6 : Int32) (l7 : Int32) (x : zsF), k_Fi_join_93 l1 l2 l3 l4 l5 fu l6 l7 x = some out → Go X (zwF c q x) [(0, .ref ((q 6))), (3, .int l3), (6, .int l6), (7, .int l7)] 93 [] := by
  intro fu
  induction fu with
  | zero => intro l6 l7 x h; rw [k_Fi_join_93] at h; cases h
  | succ fu ih =>
    intro l6 l7 x h
    rw [k_Fi_join_93] at h
    refine g_iload (pc := 93) hX d_Fi_join_93 3 rfl ?_
    refine g_iconst (pc := 95) hX d_Fi_join_95 zc_3 ?_
    refine g_icmp_ge (pc := 96) (tgt := 159) hX d_Fi_join_96 (by decide) h (fun c9 h => ?_) (fun c9 h => ?_)
    · refine g_aload_n (pc := 159) hX d_Fi_join_159 rfl 0 rfl ?_
      refine gf_Fi_24 (pc := 160) (v := .ref ((q 0))) hX 6 rfl rfl d_Fi_join_160 ?_
      refine g_iconst (pc := 163) hX d_Fi_join_163 zc_0 ?_
      refine g_iload (pc := 164) hX d_Fi_join_164 2 rfl ?_
      refine g_iload_n (pc := 166) hX d_Fi_join_166 rfl 1 rfl ?_
      obtain ⟨o10, e10, h⟩ := zbind h
      refine g_cvV (pc := 167)  (st := []) (w' := (zwF c q (((o10, x.1.2.1, x.1.2.2), x.2.1, x.2.2)))) hX zk_Jo_write zs_Jo_write zL_Fi_46 (c_Jo_write c q x.1.1 ((0 : Int32)) l6 l3 e10) rfl rfl rfl rfl (sp_Fi_Jo_0 c q x) (sq_Fi_Jo_0 c q x o10) 0 4 rfl rfl rfl d_Fi_join_167 ?_
      refine g_iload (pc := 170) hX d_Fi_join_170 2 rfl ?_
      obtain rfl := Option.some.inj h
      exact g_iret (pc := 172) hX hR d_Fi_join_172
    · refine g_iload (pc := 99) hX d_Fi_join_99 3 rfl ?_
      refine g_if_ne (pc := 101) (tgt := 108) hX d_Fi_join_101 (by decide) h (fun c11 h => ?_) (fun c11 h => ?_)
      · refine g_iload (pc := 108) hX d_Fi_join_108 3 rfl ?_
        refine g_iconst (pc := 110) hX d_Fi_join_110 zc_1 ?_
        refine g_icmp_ne (pc := 111) (tgt := 118) hX d_Fi_join_111 (by decide) h (fun c12 h => ?_) (fun c12 h => ?_)
        · refine g_iconst (pc := 118) hX d_Fi_join_118 zc_1 ?_
          exact w_Fi_join_119 hX hR ih _ _ _ _ h
        · refine g_iconst (pc := 114) hX d_Fi_join_114 zc_3 ?_
          refine g_goto (pc := 115) (tgt := 119) hX d_Fi_join_115 (by decide) ?_
          exact w_Fi_join_119 hX hR ih _ _ _ _ h
      · refine g_iconst (pc := 104) hX d_Fi_join_104 zc_2 ?_
        refine g_goto (pc := 105) (tgt := 119) hX d_Fi_join_105 (by decide) ?_
        exact w_Fi_join_119 hX hR ih _ _ _ _ h
def k_Fi_join (x : zsF) (l1 : Int32) (l2 : Int32) (l3 : Int32) (l4 : Int32) (l5 : Int32) : Option (Int32 × zsF) := (k_Ta_append 13 104 x.2.1).bind fun o1 => (k_Ta_set 13 104 o1.2 o1.1 ((0 : Int32)) l1).bind fun o2 => (k_Ta_set 13 104 o2 o1.1 ((1 : Int32)) l2).bind fun o3 => (k_Ta_set 13 104 o3 o1.1 ((2 : Int32)) l3).bind fun o4 => (k_Ta_set 13 104 o4 o1.1 ((3 : Int32)) l3).bind fun o5 => (k_Ta_set 13 104 o5 o1.1 ((4 : Int32)) l4).bind fun o6 => (k_Ta_set 13 104 o6 o1.1 ((5 : Int32)) l5).bind fun o7 => (k_Ta_set 13 104 o7 o1.1 ((6 : Int32)) ((-5 : Int32))).bind fun o8 => k_Fi_join_93 l1 l2 l3 l4 l5 zFu o1.1 ((0 : Int32)) ((x.1, o8, x.2.2))
set_option maxRecDepth 20000 in
theorem c_Fi_join (c : zY) (q : Nat → Nat) (x : zsF) (l1 : Int32) (l2 : Int32) (l3 : Int32) (l4 : Int32) (l5 : Int32) {out : Int32 × zsF} (h : k_Fi_join x l1 l2 l3 l4 l5 = some out) : KM zy_Fi_join zb_Fi_join 9 (some .int) 1 c [.ref ((q 6)), .int l1, .int l2, .int l3, .int l4, .int l5] (zwF c q x) (zwF c q out.2) (some (.int out.1)) := zK_of zp_Fi rfl (Nat.le_of_ble_eq_true rfl) (zq_Fi c q _ _) (fun X hX hR => by
  show Go X (zwF c q x) [(0, .ref ((q 6))), (1, .int l1), (2, .int l2), (3, .int l3), (4, .int l4), (5, .int l5)] 0 []
  rw [k_Fi_join] at h
  refine g_aload_n (pc := 0) hX d_Fi_join_0 rfl 0 rfl ?_
  refine gf_Fi_16 (pc := 1) (v := .ref ((q 7))) hX 6 rfl rfl d_Fi_join_1 ?_
  obtain ⟨o1, e1, h⟩ := zbind h
  refine g_cvI (pc := 4)  (st := []) (w' := (zwF c q ((x.1, o1.2, x.2.2)))) hX zk_Ta_append zs_Ta_append zL_Fi_43 (c_Ta_append c (q 7) (q 8) 13 104 x.2.1 e1) rfl rfl rfl rfl (sp_Fi_Ta_7 c q x) (sq_Fi_Ta_7 c q x o1.2) 7 6 rfl rfl rfl d_Fi_join_4 ?_
  refine g_istore (pc := 7) (L' := [(6, .int o1.1), (0, .ref ((q 6))), (1, .int l1), (2, .int l2), (3, .int l3), (4, .int l4), (5, .int l5)]) hX d_Fi_join_7 rfl rfl ?_
  refine g_aload_n (pc := 9) hX d_Fi_join_9 rfl 1 rfl ?_
  refine gf_Fi_16 (pc := 10) (v := .ref ((q 7))) hX 6 rfl rfl d_Fi_join_10 ?_
  refine g_iload (pc := 13) hX d_Fi_join_13 0 rfl ?_
  refine g_iconst (pc := 15) hX d_Fi_join_15 zc_0 ?_
  refine g_iload_n (pc := 16) hX d_Fi_join_16 rfl 2 rfl ?_
  obtain ⟨o2, e2, h⟩ := zbind h
  refine g_cvV (pc := 17)  (st := []) (w' := (zwF c q ((x.1, o2, x.2.2)))) hX zk_Ta_set zs_Ta_set zL_Fi_40 (c_Ta_set c (q 7) (q 8) 13 104 o1.2 o1.1 ((0 : Int32)) l1 e2) rfl rfl rfl rfl (sp_Fi_Ta_7 c q ((x.1, o1.2, x.2.2))) (sq_Fi_Ta_7 c q ((x.1, o1.2, x.2.2)) o2) 7 6 rfl rfl rfl d_Fi_join_17 ?_
  refine g_aload_n (pc := 20) hX d_Fi_join_20 rfl 1 rfl ?_
  refine gf_Fi_16 (pc := 21) (v := .ref ((q 7))) hX 6 rfl rfl d_Fi_join_21 ?_
  refine g_iload (pc := 24) hX d_Fi_join_24 0 rfl ?_
  refine g_iconst (pc := 26) hX d_Fi_join_26 zc_1 ?_
  refine g_iload_n (pc := 27) hX d_Fi_join_27 rfl 3 rfl ?_
  obtain ⟨o3, e3, h⟩ := zbind h
  refine g_cvV (pc := 28)  (st := []) (w' := (zwF c q ((x.1, o3, x.2.2)))) hX zk_Ta_set zs_Ta_set zL_Fi_40 (c_Ta_set c (q 7) (q 8) 13 104 o2 o1.1 ((1 : Int32)) l2 e3) rfl rfl rfl rfl (sp_Fi_Ta_7 c q ((x.1, o2, x.2.2))) (sq_Fi_Ta_7 c q ((x.1, o2, x.2.2)) o3) 7 6 rfl rfl rfl d_Fi_join_28 ?_
  refine g_aload_n (pc := 31) hX d_Fi_join_31 rfl 1 rfl ?_
  refine gf_Fi_16 (pc := 32) (v := .ref ((q 7))) hX 6 rfl rfl d_Fi_join_32 ?_
  refine g_iload (pc := 35) hX d_Fi_join_35 0 rfl ?_
  refine g_iconst (pc := 37) hX d_Fi_join_37 zc_2 ?_
  refine g_iload_n (pc := 38) hX d_Fi_join_38 rfl 4 rfl ?_
  obtain ⟨o4, e4, h⟩ := zbind h
  refine g_cvV (pc := 39)  (st := []) (w' := (zwF c q ((x.1, o4, x.2.2)))) hX zk_Ta_set zs_Ta_set zL_Fi_40 (c_Ta_set c (q 7) (q 8) 13 104 o3 o1.1 ((2 : Int32)) l3 e4) rfl rfl rfl rfl (sp_Fi_Ta_7 c q ((x.1, o3, x.2.2))) (sq_Fi_Ta_7 c q ((x.1, o3, x.2.2)) o4) 7 6 rfl rfl rfl d_Fi_join_39 ?_
  refine g_aload_n (pc := 42) hX d_Fi_join_42 rfl 1 rfl ?_
  refine gf_Fi_16 (pc := 43) (v := .ref ((q 7))) hX 6 rfl rfl d_Fi_join_43 ?_
  refine g_iload (pc := 46) hX d_Fi_join_46 0 rfl ?_
  refine g_iconst (pc := 48) hX d_Fi_join_48 zc_3 ?_
  refine g_iload_n (pc := 49) hX d_Fi_join_49 rfl 4 rfl ?_
  obtain ⟨o5, e5, h⟩ := zbind h
  refine g_cvV (pc := 50)  (st := []) (w' := (zwF c q ((x.1, o5, x.2.2)))) hX zk_Ta_set zs_Ta_set zL_Fi_40 (c_Ta_set c (q 7) (q 8) 13 104 o4 o1.1 ((3 : Int32)) l3 e5) rfl rfl rfl rfl (sp_Fi_Ta_7 c q ((x.1, o4, x.2.2))) (sq_Fi_Ta_7 c q ((x.1, o4, x.2.2)) o5) 7 6 rfl rfl rfl d_Fi_join_50 ?_
  refine g_aload_n (pc := 53) hX d_Fi_join_53 rfl 1 rfl ?_
  refine gf_Fi_16 (pc := 54) (v := .ref ((q 7))) hX 6 rfl rfl d_Fi_join_54 ?_
  refine g_iload (pc := 57) hX d_Fi_join_57 0 rfl ?_
  refine g_iconst (pc := 59) hX d_Fi_join_59 zc_4 ?_
  refine g_iload (pc := 60) hX d_Fi_join_60 5 rfl ?_
  obtain ⟨o6, e6, h⟩ := zbind h
  refine g_cvV (pc := 62)  (st := []) (w' := (zwF c q ((x.1, o6, x.2.2)))) hX zk_Ta_set zs_Ta_set zL_Fi_40 (c_Ta_set c (q 7) (q 8) 13 104 o5 o1.1 ((4 : Int32)) l4 e6) rfl rfl rfl rfl (sp_Fi_Ta_7 c q ((x.1, o5, x.2.2))) (sq_Fi_Ta_7 c q ((x.1, o5, x.2.2)) o6) 7 6 rfl rfl rfl d_Fi_join_62 ?_
  refine g_aload_n (pc := 65) hX d_Fi_join_65 rfl 1 rfl ?_
  refine gf_Fi_16 (pc := 66) (v := .ref ((q 7))) hX 6 rfl rfl d_Fi_join_66 ?_
  refine g_iload (pc := 69) hX d_Fi_join_69 0 rfl ?_
  refine g_iconst (pc := 71) hX d_Fi_join_71 zc_5 ?_
  refine g_iload (pc := 72) hX d_Fi_join_72 6 rfl ?_
  obtain ⟨o7, e7, h⟩ := zbind h
  refine g_cvV (pc := 74)  (st := []) (w' := (zwF c q ((x.1, o7, x.2.2)))) hX zk_Ta_set zs_Ta_set zL_Fi_40 (c_Ta_set c (q 7) (q 8) 13 104 o6 o1.1 ((5 : Int32)) l5 e7) rfl rfl rfl rfl (sp_Fi_Ta_7 c q ((x.1, o6, x.2.2))) (sq_Fi_Ta_7 c q ((x.1, o6, x.2.2)) o7) 7 6 rfl rfl rfl d_Fi_join_74 ?_
  refine g_aload_n (pc := 77) hX d_Fi_join_77 rfl 1 rfl ?_
  refine gf_Fi_16 (pc := 78) (v := .ref ((q 7))) hX 6 rfl rfl d_Fi_join_78 ?_
  refine g_iload (pc := 81) hX d_Fi_join_81 0 rfl ?_
  refine g_bipush (pc := 83) hX d_Fi_join_83 ze_6 ?_
  refine g_bipush (pc := 85) hX d_Fi_join_85 ze_m5 ?_
  obtain ⟨o8, e8, h⟩ := zbind h
  refine g_cvV (pc := 87)  (st := []) (w' := (zwF c q ((x.1, o8, x.2.2)))) hX zk_Ta_set zs_Ta_set zL_Fi_40 (c_Ta_set c (q 7) (q 8) 13 104 o7 o1.1 ((6 : Int32)) ((-5 : Int32)) e8) rfl rfl rfl rfl (sp_Fi_Ta_7 c q ((x.1, o7, x.2.2))) (sq_Fi_Ta_7 c q ((x.1, o7, x.2.2)) o8) 7 6 rfl rfl rfl d_Fi_join_87 ?_
  refine g_iconst (pc := 90) hX d_Fi_join_90 zc_0 ?_
  refine g_istore (pc := 91) (L' := [(7, .int ((0 : Int32))), (6, .int o1.1), (0, .ref ((q 6))), (1, .int l1), (2, .int l2), (3, .int l3), (4, .int l4), (5, .int l5)]) hX d_Fi_join_91 rfl rfl ?_
  refine g_ls (L' := [(0, .ref ((q 6))), (3, .int l3), (6, .int o1.1), (7, .int ((0 : Int32)))]) [2, 5, 1, 0] rfl ?_
  exact w_Fi_join_93 hX hR _ _ _ _ h)
theorem d_Fi_standingOn_0 : decode zb_Fi_standingOn 0 = .ok (.iconst 0, 1) := by decide +kernel
theorem d_Fi_standingOn_1 : decode zb_Fi_standingOn 1 = .ok (.istore_n 2, 1) := by decide +kernel
theorem d_Fi_standingOn_2 : decode zb_Fi_standingOn 2 = .ok (.iload_n 2, 1) := by decide +kernel
theorem d_Fi_standingOn_3 : decode zb_Fi_standingOn 3 = .ok (.aload_n 0, 1) := by decide +kernel
theorem d_Fi_standingOn_4 : decode zb_Fi_standingOn 4 = .ok (.getfield 16, 3) := by decide +kernel
theorem d_Fi_standingOn_7 : decode zb_Fi_standingOn 7 = .ok (.invokevirtual 28, 3) := by decide +kernel
theorem d_Fi_standingOn_10 : decode zb_Fi_standingOn 10 = .ok (.if_icmp .ge 24, 3) := by decide +kernel
theorem d_Fi_standingOn_13 : decode zb_Fi_standingOn 13 = .ok (.aload_n 0, 1) := by decide +kernel
theorem d_Fi_standingOn_14 : decode zb_Fi_standingOn 14 = .ok (.getfield 16, 3) := by decide +kernel
theorem d_Fi_standingOn_17 : decode zb_Fi_standingOn 17 = .ok (.iload_n 2, 1) := by decide +kernel
theorem d_Fi_standingOn_18 : decode zb_Fi_standingOn 18 = .ok (.iconst 1, 1) := by decide +kernel
theorem d_Fi_standingOn_19 : decode zb_Fi_standingOn 19 = .ok (.invokevirtual 36, 3) := by decide +kernel
theorem d_Fi_standingOn_22 : decode zb_Fi_standingOn 22 = .ok (.iload_n 1, 1) := by decide +kernel
theorem d_Fi_standingOn_23 : decode zb_Fi_standingOn 23 = .ok (.if_icmp .ne 5, 3) := by decide +kernel
theorem d_Fi_standingOn_26 : decode zb_Fi_standingOn 26 = .ok (.iload_n 2, 1) := by decide +kernel
theorem d_Fi_standingOn_27 : decode zb_Fi_standingOn 27 = .ok (.ireturn, 1) := by decide +kernel
theorem d_Fi_standingOn_28 : decode zb_Fi_standingOn 28 = .ok (.iinc 2 1, 3) := by decide +kernel
theorem d_Fi_standingOn_31 : decode zb_Fi_standingOn 31 = .ok (.goto (-29), 3) := by decide +kernel
theorem d_Fi_standingOn_34 : decode zb_Fi_standingOn 34 = .ok (.iconst (-1), 1) := by decide +kernel
theorem d_Fi_standingOn_35 : decode zb_Fi_standingOn 35 = .ok (.ireturn, 1) := by decide +kernel
def k_Fi_standingOn_2 (x : zsF) (l1 : Int32) : Nat → Int32 → Option (Int32)
  | 0, _ => none
  | fu + 1, l2 => (k_Ta_used 13 104 x.2.1).bind fun o1 => (if l2 < o1 then (k_Ta_get 13 104 x.2.1 l2 ((1 : Int32))).bind fun o3 => (if o3 = l1 then some l2 else k_Fi_standingOn_2 x l1 fu ((l2 + (1 : Int32)))) else some ((-1 : Int32)))
set_option maxRecDepth 20000 in
theorem w_Fi_standingOn_2 {X : zX} {c : zY} {q : Nat → Nat} {x : zsF} {l1 : Int32} {out : Int32} (hX : Ok X zr_Fi zb_Fi_standingOn 3 1 c) (hR : Rt X (some .int) (some (.int out)) (zwF c q x)) : ∀ (fu : Nat) (l2 : Int32), k_Fi_standingOn_2 x l1 fu l2 = some out → Go X (zwF c q x) [(0, .ref ((q 6))), (1, .int l1), (2, .int l2)] 2 [] := by
  intro fu
  induction fu with
  | zero => intro l2 h; rw [k_Fi_standingOn_2] at h; cases h
  | succ fu ih =>
    intro l2 h
    rw [k_Fi_standingOn_2] at h
    refine g_iload_n (pc := 2) hX d_Fi_standingOn_2 rfl 2 rfl ?_
    refine g_aload_n (pc := 3) hX d_Fi_standingOn_3 rfl 0 rfl ?_
    refine gf_Fi_16 (pc := 4) (v := .ref ((q 7))) hX 6 rfl rfl d_Fi_standingOn_4 ?_
    obtain ⟨o1, e1, h⟩ := zbind h
    refine g_cvI (pc := 7)  (st := [.int l2]) (w' := (zwF c q x)) hX zk_Ta_used zs_Ta_used zL_Fi_28 (c_Ta_used c (q 7) (q 8) 13 104 x.2.1 e1) rfl rfl rfl rfl (sp_Fi_Ta_7 c q x) (sp_Fi_Ta_7 c q x).symm 7 6 rfl rfl rfl d_Fi_standingOn_7 ?_
    refine g_icmp_ge (pc := 10) (tgt := 34) hX d_Fi_standingOn_10 (by decide) h (fun c2 h => ?_) (fun c2 h => ?_)
    · refine g_iconst (pc := 34) hX d_Fi_standingOn_34 zc_m1 ?_
      obtain rfl := Option.some.inj h
      exact g_iret (pc := 35) hX hR d_Fi_standingOn_35
    · refine g_aload_n (pc := 13) hX d_Fi_standingOn_13 rfl 0 rfl ?_
      refine gf_Fi_16 (pc := 14) (v := .ref ((q 7))) hX 6 rfl rfl d_Fi_standingOn_14 ?_
      refine g_iload_n (pc := 17) hX d_Fi_standingOn_17 rfl 2 rfl ?_
      refine g_iconst (pc := 18) hX d_Fi_standingOn_18 zc_1 ?_
      obtain ⟨o3, e3, h⟩ := zbind h
      refine g_cvI (pc := 19)  (st := []) (w' := (zwF c q x)) hX zk_Ta_get zs_Ta_get zL_Fi_36 (c_Ta_get c (q 7) (q 8) 13 104 x.2.1 l2 ((1 : Int32)) e3) rfl rfl rfl rfl (sp_Fi_Ta_7 c q x) (sp_Fi_Ta_7 c q x).symm 7 6 rfl rfl rfl d_Fi_standingOn_19 ?_
      refine g_iload_n (pc := 22) hX d_Fi_standingOn_22 rfl 1 rfl ?_
      refine g_icmp_ne (pc := 23) (tgt := 28) hX d_Fi_standingOn_23 (by decide) h (fun c4 h => ?_) (fun c4 h => ?_)
      · refine g_iinc (pc := 28) (q := 2) (L' := [(2, .int ((l2 + (1 : Int32)))), (0, .ref ((q 6))), (1, .int l1)]) hX d_Fi_standingOn_28 rfl zc_1 rfl rfl ?_
        refine g_goto (pc := 31) (tgt := 2) hX d_Fi_standingOn_31 (by decide) ?_
        refine g_ls (L' := [(0, .ref ((q 6))), (1, .int l1), (2, .int ((l2 + (1 : Int32))))]) [1, 2, 0] rfl ?_
        exact ih _ h
      · refine g_iload_n (pc := 26) hX d_Fi_standingOn_26 rfl 2 rfl ?_
        obtain rfl := Option.some.inj h
        exact g_iret (pc := 27) hX hR d_Fi_standingOn_27
def k_Fi_standingOn (x : zsF) (l1 : Int32) : Option (Int32) := k_Fi_standingOn_2 x l1 zFu ((0 : Int32))
set_option maxRecDepth 20000 in
theorem c_Fi_standingOn (c : zY) (q : Nat → Nat) (x : zsF) (l1 : Int32) {out : Int32} (h : k_Fi_standingOn x l1 = some out) : KM zy_Fi_standingOn zb_Fi_standingOn 3 (some .int) 1 c [.ref ((q 6)), .int l1] (zwF c q x) (zwF c q x) (some (.int out)) := zK_of zp_Fi rfl (Nat.le_of_ble_eq_true rfl) (zq_Fi c q _ _) (fun X hX hR => by
  show Go X (zwF c q x) [(0, .ref ((q 6))), (1, .int l1)] 0 []
  rw [k_Fi_standingOn] at h
  refine g_iconst (pc := 0) hX d_Fi_standingOn_0 zc_0 ?_
  refine g_istore_n (pc := 1) (L' := [(2, .int ((0 : Int32))), (0, .ref ((q 6))), (1, .int l1)]) hX d_Fi_standingOn_1 rfl rfl rfl ?_
  refine g_ls (L' := [(0, .ref ((q 6))), (1, .int l1), (2, .int ((0 : Int32)))]) [1, 2, 0] rfl ?_
  exact w_Fi_standingOn_2 hX hR _ _ h)
theorem d_Fi_isDown_0 : decode zb_Fi_isDown 0 = .ok (.aload_n 0, 1) := by decide +kernel
theorem d_Fi_isDown_1 : decode zb_Fi_isDown 1 = .ok (.getfield 16, 3) := by decide +kernel
theorem d_Fi_isDown_4 : decode zb_Fi_isDown 4 = .ok (.iload_n 1, 1) := by decide +kernel
theorem d_Fi_isDown_5 : decode zb_Fi_isDown 5 = .ok (.iconst 2, 1) := by decide +kernel
theorem d_Fi_isDown_6 : decode zb_Fi_isDown 6 = .ok (.invokevirtual 36, 3) := by decide +kernel
theorem d_Fi_isDown_9 : decode zb_Fi_isDown 9 = .ok (.ifCond .ne 7, 3) := by decide +kernel
theorem d_Fi_isDown_12 : decode zb_Fi_isDown 12 = .ok (.iconst 1, 1) := by decide +kernel
theorem d_Fi_isDown_13 : decode zb_Fi_isDown 13 = .ok (.goto 4, 3) := by decide +kernel
theorem d_Fi_isDown_16 : decode zb_Fi_isDown 16 = .ok (.iconst 0, 1) := by decide +kernel
theorem d_Fi_isDown_17 : decode zb_Fi_isDown 17 = .ok (.ireturn, 1) := by decide +kernel
def k_Fi_isDown (x : zsF) (l1 : Int32) : Option (Int32) := (k_Ta_get 13 104 x.2.1 l1 ((2 : Int32))).bind fun o1 => (if o1 = 0 then some ((1 : Int32)) else some ((0 : Int32)))
set_option maxRecDepth 20000 in
theorem c_Fi_isDown (c : zY) (q : Nat → Nat) (x : zsF) (l1 : Int32) {out : Int32} (h : k_Fi_isDown x l1 = some out) : KM zy_Fi_isDown zb_Fi_isDown 2 (some .boolean) 1 c [.ref ((q 6)), .int l1] (zwF c q x) (zwF c q x) (some (.int out)) := zK_of zp_Fi rfl (Nat.le_of_ble_eq_true rfl) (zq_Fi c q _ _) (fun X hX hR => by
  show Go X (zwF c q x) [(0, .ref ((q 6))), (1, .int l1)] 0 []
  rw [k_Fi_isDown] at h
  refine g_aload_n (pc := 0) hX d_Fi_isDown_0 rfl 0 rfl ?_
  refine gf_Fi_16 (pc := 1) (v := .ref ((q 7))) hX 6 rfl rfl d_Fi_isDown_1 ?_
  refine g_iload_n (pc := 4) hX d_Fi_isDown_4 rfl 1 rfl ?_
  refine g_iconst (pc := 5) hX d_Fi_isDown_5 zc_2 ?_
  obtain ⟨o1, e1, h⟩ := zbind h
  refine g_cvI (pc := 6)  (st := []) (w' := (zwF c q x)) hX zk_Ta_get zs_Ta_get zL_Fi_36 (c_Ta_get c (q 7) (q 8) 13 104 x.2.1 l1 ((2 : Int32)) e1) rfl rfl rfl rfl (sp_Fi_Ta_7 c q x) (sp_Fi_Ta_7 c q x).symm 7 6 rfl rfl rfl d_Fi_isDown_6 ?_
  refine g_if_ne (pc := 9) (tgt := 16) hX d_Fi_isDown_9 (by decide) h (fun c2 h => ?_) (fun c2 h => ?_)
  · refine g_iconst (pc := 16) hX d_Fi_isDown_16 zc_0 ?_
    obtain rfl := Option.some.inj h
    exact g_zret (pc := 17) hX hR (Or.inl rfl) d_Fi_isDown_17
  · refine g_iconst (pc := 12) hX d_Fi_isDown_12 zc_1 ?_
    refine g_goto (pc := 13) (tgt := 17) hX d_Fi_isDown_13 (by decide) ?_
    obtain rfl := Option.some.inj h
    exact g_zret (pc := 17) hX hR (Or.inr rfl) d_Fi_isDown_17)
theorem d_Fi_canAct_0 : decode zb_Fi_canAct 0 = .ok (.aload_n 0, 1) := by decide +kernel
theorem d_Fi_canAct_1 : decode zb_Fi_canAct 1 = .ok (.iload_n 1, 1) := by decide +kernel
theorem d_Fi_canAct_2 : decode zb_Fi_canAct 2 = .ok (.invokevirtual 51, 3) := by decide +kernel
theorem d_Fi_canAct_5 : decode zb_Fi_canAct 5 = .ok (.ifCond .ne 31, 3) := by decide +kernel
theorem d_Fi_canAct_8 : decode zb_Fi_canAct 8 = .ok (.aload_n 0, 1) := by decide +kernel
theorem d_Fi_canAct_9 : decode zb_Fi_canAct 9 = .ok (.getfield 20, 3) := by decide +kernel
theorem d_Fi_canAct_12 : decode zb_Fi_canAct 12 = .ok (.iload_n 1, 1) := by decide +kernel
theorem d_Fi_canAct_13 : decode zb_Fi_canAct 13 = .ok (.iconst 1, 1) := by decide +kernel
theorem d_Fi_canAct_14 : decode zb_Fi_canAct 14 = .ok (.invokevirtual 54, 3) := by decide +kernel
theorem d_Fi_canAct_17 : decode zb_Fi_canAct 17 = .ok (.ifCond .ne 19, 3) := by decide +kernel
theorem d_Fi_canAct_20 : decode zb_Fi_canAct 20 = .ok (.aload_n 0, 1) := by decide +kernel
theorem d_Fi_canAct_21 : decode zb_Fi_canAct 21 = .ok (.getfield 20, 3) := by decide +kernel
theorem d_Fi_canAct_24 : decode zb_Fi_canAct 24 = .ok (.iload_n 1, 1) := by decide +kernel
theorem d_Fi_canAct_25 : decode zb_Fi_canAct 25 = .ok (.iconst 5, 1) := by decide +kernel
theorem d_Fi_canAct_26 : decode zb_Fi_canAct 26 = .ok (.invokevirtual 54, 3) := by decide +kernel
theorem d_Fi_canAct_29 : decode zb_Fi_canAct 29 = .ok (.ifCond .ne 7, 3) := by decide +kernel
theorem d_Fi_canAct_32 : decode zb_Fi_canAct 32 = .ok (.iconst 1, 1) := by decide +kernel
theorem d_Fi_canAct_33 : decode zb_Fi_canAct 33 = .ok (.goto 4, 3) := by decide +kernel
theorem d_Fi_canAct_36 : decode zb_Fi_canAct 36 = .ok (.iconst 0, 1) := by decide +kernel
theorem d_Fi_canAct_37 : decode zb_Fi_canAct 37 = .ok (.ireturn, 1) := by decide +kernel
def k_Fi_canAct (x : zsF) (l1 : Int32) : Option (Int32) := (k_Fi_isDown x l1).bind fun o1 => (if o1 = 0 then (k_Co_sumOf x.1 l1 ((1 : Int32))).bind fun o3 => (if o3 = 0 then (k_Co_sumOf x.1 l1 ((5 : Int32))).bind fun o5 => (if o5 = 0 then some ((1 : Int32)) else some ((0 : Int32))) else some ((0 : Int32))) else some ((0 : Int32)))
set_option maxRecDepth 20000 in
theorem c_Fi_canAct (c : zY) (q : Nat → Nat) (x : zsF) (l1 : Int32) {out : Int32} (h : k_Fi_canAct x l1 = some out) : KM zy_Fi_canAct zb_Fi_canAct 2 (some .boolean) 2 c [.ref ((q 6)), .int l1] (zwF c q x) (zwF c q x) (some (.int out)) := zK_of zp_Fi rfl (Nat.le_of_ble_eq_true rfl) (zq_Fi c q _ _) (fun X hX hR => by
  show Go X (zwF c q x) [(0, .ref ((q 6))), (1, .int l1)] 0 []
  rw [k_Fi_canAct] at h
  refine g_aload_n (pc := 0) hX d_Fi_canAct_0 rfl 0 rfl ?_
  refine g_iload_n (pc := 1) hX d_Fi_canAct_1 rfl 1 rfl ?_
  obtain ⟨o1, e1, h⟩ := zbind h
  refine g_cvI (pc := 2) (w1 := []) (w2 := []) (st := []) (w' := (zwF c q x)) hX zk_Fi_isDown zs_Fi_isDown zL_Fi_51 (c_Fi_isDown c q x l1 e1) rfl rfl rfl rfl (zself _) (zself _).symm 6 3 rfl rfl rfl d_Fi_canAct_2 ?_
  refine g_if_ne (pc := 5) (tgt := 36) hX d_Fi_canAct_5 (by decide) h (fun c2 h => ?_) (fun c2 h => ?_)
  · refine g_iconst (pc := 36) hX d_Fi_canAct_36 zc_0 ?_
    obtain rfl := Option.some.inj h
    exact g_zret (pc := 37) hX hR (Or.inl rfl) d_Fi_canAct_37
  · refine g_aload_n (pc := 8) hX d_Fi_canAct_8 rfl 0 rfl ?_
    refine gf_Fi_20 (pc := 9) (v := .ref ((q 2))) hX 6 rfl rfl d_Fi_canAct_9 ?_
    refine g_iload_n (pc := 12) hX d_Fi_canAct_12 rfl 1 rfl ?_
    refine g_iconst (pc := 13) hX d_Fi_canAct_13 zc_1 ?_
    obtain ⟨o3, e3, h⟩ := zbind h
    refine g_cvI (pc := 14)  (st := []) (w' := (zwF c q x)) hX zk_Co_sumOf zs_Co_sumOf zL_Fi_54 (c_Co_sumOf c q x.1 l1 ((1 : Int32)) e3) rfl rfl rfl rfl (sp_Fi_Co_0 c q x) (sp_Fi_Co_0 c q x).symm 2 1 rfl rfl rfl d_Fi_canAct_14 ?_
    refine g_if_ne (pc := 17) (tgt := 36) hX d_Fi_canAct_17 (by decide) h (fun c4 h => ?_) (fun c4 h => ?_)
    · refine g_iconst (pc := 36) hX d_Fi_canAct_36 zc_0 ?_
      obtain rfl := Option.some.inj h
      exact g_zret (pc := 37) hX hR (Or.inl rfl) d_Fi_canAct_37
    · refine g_aload_n (pc := 20) hX d_Fi_canAct_20 rfl 0 rfl ?_
      refine gf_Fi_20 (pc := 21) (v := .ref ((q 2))) hX 6 rfl rfl d_Fi_canAct_21 ?_
      refine g_iload_n (pc := 24) hX d_Fi_canAct_24 rfl 1 rfl ?_
      refine g_iconst (pc := 25) hX d_Fi_canAct_25 zc_5 ?_
      obtain ⟨o5, e5, h⟩ := zbind h
      refine g_cvI (pc := 26)  (st := []) (w' := (zwF c q x)) hX zk_Co_sumOf zs_Co_sumOf zL_Fi_54 (c_Co_sumOf c q x.1 l1 ((5 : Int32)) e5) rfl rfl rfl rfl (sp_Fi_Co_0 c q x) (sp_Fi_Co_0 c q x).symm 2 1 rfl rfl rfl d_Fi_canAct_26 ?_
      refine g_if_ne (pc := 29) (tgt := 36) hX d_Fi_canAct_29 (by decide) h (fun c6 h => ?_) (fun c6 h => ?_)
      · refine g_iconst (pc := 36) hX d_Fi_canAct_36 zc_0 ?_
        obtain rfl := Option.some.inj h
        exact g_zret (pc := 37) hX hR (Or.inl rfl) d_Fi_canAct_37
      · refine g_iconst (pc := 32) hX d_Fi_canAct_32 zc_1 ?_
        refine g_goto (pc := 33) (tgt := 37) hX d_Fi_canAct_33 (by decide) ?_
        obtain rfl := Option.some.inj h
        exact g_zret (pc := 37) hX hR (Or.inr rfl) d_Fi_canAct_37)
theorem d_Fi_areFoes_0 : decode zb_Fi_areFoes 0 = .ok (.aload_n 0, 1) := by decide +kernel
theorem d_Fi_areFoes_1 : decode zb_Fi_areFoes 1 = .ok (.getfield 16, 3) := by decide +kernel
theorem d_Fi_areFoes_4 : decode zb_Fi_areFoes 4 = .ok (.iload_n 1, 1) := by decide +kernel
theorem d_Fi_areFoes_5 : decode zb_Fi_areFoes 5 = .ok (.iconst 0, 1) := by decide +kernel
theorem d_Fi_areFoes_6 : decode zb_Fi_areFoes 6 = .ok (.invokevirtual 36, 3) := by decide +kernel
theorem d_Fi_areFoes_9 : decode zb_Fi_areFoes 9 = .ok (.aload_n 0, 1) := by decide +kernel
theorem d_Fi_areFoes_10 : decode zb_Fi_areFoes 10 = .ok (.getfield 16, 3) := by decide +kernel
theorem d_Fi_areFoes_13 : decode zb_Fi_areFoes 13 = .ok (.iload_n 2, 1) := by decide +kernel
theorem d_Fi_areFoes_14 : decode zb_Fi_areFoes 14 = .ok (.iconst 0, 1) := by decide +kernel
theorem d_Fi_areFoes_15 : decode zb_Fi_areFoes 15 = .ok (.invokevirtual 36, 3) := by decide +kernel
theorem d_Fi_areFoes_18 : decode zb_Fi_areFoes 18 = .ok (.if_icmp .eq 7, 3) := by decide +kernel
theorem d_Fi_areFoes_21 : decode zb_Fi_areFoes 21 = .ok (.iconst 1, 1) := by decide +kernel
theorem d_Fi_areFoes_22 : decode zb_Fi_areFoes 22 = .ok (.goto 4, 3) := by decide +kernel
theorem d_Fi_areFoes_25 : decode zb_Fi_areFoes 25 = .ok (.iconst 0, 1) := by decide +kernel
theorem d_Fi_areFoes_26 : decode zb_Fi_areFoes 26 = .ok (.ireturn, 1) := by decide +kernel
def k_Fi_areFoes (x : zsF) (l1 : Int32) (l2 : Int32) : Option (Int32) := (k_Ta_get 13 104 x.2.1 l1 ((0 : Int32))).bind fun o1 => (k_Ta_get 13 104 x.2.1 l2 ((0 : Int32))).bind fun o2 => (if o1 = o2 then some ((0 : Int32)) else some ((1 : Int32)))
set_option maxRecDepth 20000 in
theorem c_Fi_areFoes (c : zY) (q : Nat → Nat) (x : zsF) (l1 : Int32) (l2 : Int32) {out : Int32} (h : k_Fi_areFoes x l1 l2 = some out) : KM zy_Fi_areFoes zb_Fi_areFoes 3 (some .boolean) 1 c [.ref ((q 6)), .int l1, .int l2] (zwF c q x) (zwF c q x) (some (.int out)) := zK_of zp_Fi rfl (Nat.le_of_ble_eq_true rfl) (zq_Fi c q _ _) (fun X hX hR => by
  show Go X (zwF c q x) [(0, .ref ((q 6))), (1, .int l1), (2, .int l2)] 0 []
  rw [k_Fi_areFoes] at h
  refine g_aload_n (pc := 0) hX d_Fi_areFoes_0 rfl 0 rfl ?_
  refine gf_Fi_16 (pc := 1) (v := .ref ((q 7))) hX 6 rfl rfl d_Fi_areFoes_1 ?_
  refine g_iload_n (pc := 4) hX d_Fi_areFoes_4 rfl 1 rfl ?_
  refine g_iconst (pc := 5) hX d_Fi_areFoes_5 zc_0 ?_
  obtain ⟨o1, e1, h⟩ := zbind h
  refine g_cvI (pc := 6)  (st := []) (w' := (zwF c q x)) hX zk_Ta_get zs_Ta_get zL_Fi_36 (c_Ta_get c (q 7) (q 8) 13 104 x.2.1 l1 ((0 : Int32)) e1) rfl rfl rfl rfl (sp_Fi_Ta_7 c q x) (sp_Fi_Ta_7 c q x).symm 7 6 rfl rfl rfl d_Fi_areFoes_6 ?_
  refine g_aload_n (pc := 9) hX d_Fi_areFoes_9 rfl 0 rfl ?_
  refine gf_Fi_16 (pc := 10) (v := .ref ((q 7))) hX 6 rfl rfl d_Fi_areFoes_10 ?_
  refine g_iload_n (pc := 13) hX d_Fi_areFoes_13 rfl 2 rfl ?_
  refine g_iconst (pc := 14) hX d_Fi_areFoes_14 zc_0 ?_
  obtain ⟨o2, e2, h⟩ := zbind h
  refine g_cvI (pc := 15)  (st := [.int o1]) (w' := (zwF c q x)) hX zk_Ta_get zs_Ta_get zL_Fi_36 (c_Ta_get c (q 7) (q 8) 13 104 x.2.1 l2 ((0 : Int32)) e2) rfl rfl rfl rfl (sp_Fi_Ta_7 c q x) (sp_Fi_Ta_7 c q x).symm 7 6 rfl rfl rfl d_Fi_areFoes_15 ?_
  refine g_icmp_eq (pc := 18) (tgt := 25) hX d_Fi_areFoes_18 (by decide) h (fun c3 h => ?_) (fun c3 h => ?_)
  · refine g_iconst (pc := 25) hX d_Fi_areFoes_25 zc_0 ?_
    obtain rfl := Option.some.inj h
    exact g_zret (pc := 26) hX hR (Or.inl rfl) d_Fi_areFoes_26
  · refine g_iconst (pc := 21) hX d_Fi_areFoes_21 zc_1 ?_
    refine g_goto (pc := 22) (tgt := 26) hX d_Fi_areFoes_22 (by decide) ?_
    obtain rfl := Option.some.inj h
    exact g_zret (pc := 26) hX hR (Or.inr rfl) d_Fi_areFoes_26)
theorem d_Fi_numberDown_0 : decode zb_Fi_numberDown 0 = .ok (.iconst 0, 1) := by decide +kernel
theorem d_Fi_numberDown_1 : decode zb_Fi_numberDown 1 = .ok (.istore_n 1, 1) := by decide +kernel
theorem d_Fi_numberDown_2 : decode zb_Fi_numberDown 2 = .ok (.iconst 0, 1) := by decide +kernel
theorem d_Fi_numberDown_3 : decode zb_Fi_numberDown 3 = .ok (.istore_n 2, 1) := by decide +kernel
theorem d_Fi_numberDown_4 : decode zb_Fi_numberDown 4 = .ok (.iload_n 2, 1) := by decide +kernel
theorem d_Fi_numberDown_5 : decode zb_Fi_numberDown 5 = .ok (.aload_n 0, 1) := by decide +kernel
theorem d_Fi_numberDown_6 : decode zb_Fi_numberDown 6 = .ok (.getfield 16, 3) := by decide +kernel
theorem d_Fi_numberDown_9 : decode zb_Fi_numberDown 9 = .ok (.invokevirtual 28, 3) := by decide +kernel
theorem d_Fi_numberDown_12 : decode zb_Fi_numberDown 12 = .ok (.if_icmp .ge 20, 3) := by decide +kernel
theorem d_Fi_numberDown_15 : decode zb_Fi_numberDown 15 = .ok (.aload_n 0, 1) := by decide +kernel
theorem d_Fi_numberDown_16 : decode zb_Fi_numberDown 16 = .ok (.iload_n 2, 1) := by decide +kernel
theorem d_Fi_numberDown_17 : decode zb_Fi_numberDown 17 = .ok (.invokevirtual 51, 3) := by decide +kernel
theorem d_Fi_numberDown_20 : decode zb_Fi_numberDown 20 = .ok (.ifCond .eq 6, 3) := by decide +kernel
theorem d_Fi_numberDown_23 : decode zb_Fi_numberDown 23 = .ok (.iinc 1 1, 3) := by decide +kernel
theorem d_Fi_numberDown_26 : decode zb_Fi_numberDown 26 = .ok (.iinc 2 1, 3) := by decide +kernel
theorem d_Fi_numberDown_29 : decode zb_Fi_numberDown 29 = .ok (.goto (-25), 3) := by decide +kernel
theorem d_Fi_numberDown_32 : decode zb_Fi_numberDown 32 = .ok (.iload_n 1, 1) := by decide +kernel
theorem d_Fi_numberDown_33 : decode zb_Fi_numberDown 33 = .ok (.ireturn, 1) := by decide +kernel
def k_Fi_numberDown_4 (x : zsF) : Nat → Int32 → Int32 → Option (Int32)
  | 0, _, _ => none
  | fu + 1, l1, l2 => (k_Ta_used 13 104 x.2.1).bind fun o1 => (if l2 < o1 then (k_Fi_isDown x l2).bind fun o3 => (if o3 = 0 then k_Fi_numberDown_4 x fu l1 ((l2 + (1 : Int32))) else k_Fi_numberDown_4 x fu ((l1 + (1 : Int32))) ((l2 + (1 : Int32)))) else some l1)
set_option maxRecDepth 20000 in
theorem w_Fi_numberDown_4 {X : zX} {c : zY} {q : Nat → Nat} {x : zsF} {out : Int32} (hX : Ok X zr_Fi zb_Fi_numberDown 3 2 c) (hR : Rt X (some .int) (some (.int out)) (zwF c q x)) : ∀ (fu : Nat) (l1 : Int32) (l2 : Int32), k_Fi_numberDown_4 x fu l1 l2 = some out → Go X (zwF c q x) [(0, .ref ((q 6))), (1, .int l1), (2, .int l2)] 4 [] := by
  intro fu
  induction fu with
  | zero => intro l1 l2 h; rw [k_Fi_numberDown_4] at h; cases h
  | succ fu ih =>
    intro l1 l2 h
    rw [k_Fi_numberDown_4] at h
    refine g_iload_n (pc := 4) hX d_Fi_numberDown_4 rfl 2 rfl ?_
    refine g_aload_n (pc := 5) hX d_Fi_numberDown_5 rfl 0 rfl ?_
    refine gf_Fi_16 (pc := 6) (v := .ref ((q 7))) hX 6 rfl rfl d_Fi_numberDown_6 ?_
    obtain ⟨o1, e1, h⟩ := zbind h
    refine g_cvI (pc := 9)  (st := [.int l2]) (w' := (zwF c q x)) hX zk_Ta_used zs_Ta_used zL_Fi_28 (c_Ta_used c (q 7) (q 8) 13 104 x.2.1 e1) rfl rfl rfl rfl (sp_Fi_Ta_7 c q x) (sp_Fi_Ta_7 c q x).symm 7 6 rfl rfl rfl d_Fi_numberDown_9 ?_
    refine g_icmp_ge (pc := 12) (tgt := 32) hX d_Fi_numberDown_12 (by decide) h (fun c2 h => ?_) (fun c2 h => ?_)
    · refine g_iload_n (pc := 32) hX d_Fi_numberDown_32 rfl 1 rfl ?_
      obtain rfl := Option.some.inj h
      exact g_iret (pc := 33) hX hR d_Fi_numberDown_33
    · refine g_aload_n (pc := 15) hX d_Fi_numberDown_15 rfl 0 rfl ?_
      refine g_iload_n (pc := 16) hX d_Fi_numberDown_16 rfl 2 rfl ?_
      obtain ⟨o3, e3, h⟩ := zbind h
      refine g_cvI (pc := 17) (w1 := []) (w2 := []) (st := []) (w' := (zwF c q x)) hX zk_Fi_isDown zs_Fi_isDown zL_Fi_51 (c_Fi_isDown c q x l2 e3) rfl rfl rfl rfl (zself _) (zself _).symm 6 3 rfl rfl rfl d_Fi_numberDown_17 ?_
      refine g_if_eq (pc := 20) (tgt := 26) hX d_Fi_numberDown_20 (by decide) h (fun c4 h => ?_) (fun c4 h => ?_)
      · refine g_iinc (pc := 26) (q := 2) (L' := [(2, .int ((l2 + (1 : Int32)))), (0, .ref ((q 6))), (1, .int l1)]) hX d_Fi_numberDown_26 rfl zc_1 rfl rfl ?_
        refine g_goto (pc := 29) (tgt := 4) hX d_Fi_numberDown_29 (by decide) ?_
        refine g_ls (L' := [(0, .ref ((q 6))), (1, .int l1), (2, .int ((l2 + (1 : Int32))))]) [1, 2, 0] rfl ?_
        exact ih _ _ h
      · refine g_iinc (pc := 23) (q := 1) (L' := [(1, .int ((l1 + (1 : Int32)))), (0, .ref ((q 6))), (2, .int l2)]) hX d_Fi_numberDown_23 rfl zc_1 rfl rfl ?_
        refine g_iinc (pc := 26) (q := 2) (L' := [(2, .int ((l2 + (1 : Int32)))), (1, .int ((l1 + (1 : Int32)))), (0, .ref ((q 6)))]) hX d_Fi_numberDown_26 rfl zc_1 rfl rfl ?_
        refine g_goto (pc := 29) (tgt := 4) hX d_Fi_numberDown_29 (by decide) ?_
        refine g_ls (L' := [(0, .ref ((q 6))), (1, .int ((l1 + (1 : Int32)))), (2, .int ((l2 + (1 : Int32))))]) [2, 1, 0] rfl ?_
        exact ih _ _ h
def k_Fi_numberDown (x : zsF) : Option (Int32) := k_Fi_numberDown_4 x zFu ((0 : Int32)) ((0 : Int32))
set_option maxRecDepth 20000 in
theorem c_Fi_numberDown (c : zY) (q : Nat → Nat) (x : zsF) {out : Int32} (h : k_Fi_numberDown x = some out) : KM zy_Fi_numberDown zb_Fi_numberDown 3 (some .int) 2 c [.ref ((q 6))] (zwF c q x) (zwF c q x) (some (.int out)) := zK_of zp_Fi rfl (Nat.le_of_ble_eq_true rfl) (zq_Fi c q _ _) (fun X hX hR => by
  show Go X (zwF c q x) [(0, .ref ((q 6)))] 0 []
  rw [k_Fi_numberDown] at h
  refine g_iconst (pc := 0) hX d_Fi_numberDown_0 zc_0 ?_
  refine g_istore_n (pc := 1) (L' := [(1, .int ((0 : Int32))), (0, .ref ((q 6)))]) hX d_Fi_numberDown_1 rfl rfl rfl ?_
  refine g_iconst (pc := 2) hX d_Fi_numberDown_2 zc_0 ?_
  refine g_istore_n (pc := 3) (L' := [(2, .int ((0 : Int32))), (1, .int ((0 : Int32))), (0, .ref ((q 6)))]) hX d_Fi_numberDown_3 rfl rfl rfl ?_
  refine g_ls (L' := [(0, .ref ((q 6))), (1, .int ((0 : Int32))), (2, .int ((0 : Int32)))]) [2, 1, 0] rfl ?_
  exact w_Fi_numberDown_4 hX hR _ _ _ h)
theorem d_Fi_livesOf_0 : decode zb_Fi_livesOf 0 = .ok (.iconst 0, 1) := by decide +kernel
theorem d_Fi_livesOf_1 : decode zb_Fi_livesOf 1 = .ok (.istore_n 2, 1) := by decide +kernel
theorem d_Fi_livesOf_2 : decode zb_Fi_livesOf 2 = .ok (.iconst 0, 1) := by decide +kernel
theorem d_Fi_livesOf_3 : decode zb_Fi_livesOf 3 = .ok (.istore_n 3, 1) := by decide +kernel
theorem d_Fi_livesOf_4 : decode zb_Fi_livesOf 4 = .ok (.iload_n 3, 1) := by decide +kernel
theorem d_Fi_livesOf_5 : decode zb_Fi_livesOf 5 = .ok (.aload_n 0, 1) := by decide +kernel
theorem d_Fi_livesOf_6 : decode zb_Fi_livesOf 6 = .ok (.getfield 16, 3) := by decide +kernel
theorem d_Fi_livesOf_9 : decode zb_Fi_livesOf 9 = .ok (.invokevirtual 28, 3) := by decide +kernel
theorem d_Fi_livesOf_12 : decode zb_Fi_livesOf 12 = .ok (.if_icmp .ge 34, 3) := by decide +kernel
theorem d_Fi_livesOf_15 : decode zb_Fi_livesOf 15 = .ok (.aload_n 0, 1) := by decide +kernel
theorem d_Fi_livesOf_16 : decode zb_Fi_livesOf 16 = .ok (.getfield 16, 3) := by decide +kernel
theorem d_Fi_livesOf_19 : decode zb_Fi_livesOf 19 = .ok (.iload_n 3, 1) := by decide +kernel
theorem d_Fi_livesOf_20 : decode zb_Fi_livesOf 20 = .ok (.iconst 0, 1) := by decide +kernel
theorem d_Fi_livesOf_21 : decode zb_Fi_livesOf 21 = .ok (.invokevirtual 36, 3) := by decide +kernel
theorem d_Fi_livesOf_24 : decode zb_Fi_livesOf 24 = .ok (.iload_n 1, 1) := by decide +kernel
theorem d_Fi_livesOf_25 : decode zb_Fi_livesOf 25 = .ok (.if_icmp .ne 15, 3) := by decide +kernel
theorem d_Fi_livesOf_28 : decode zb_Fi_livesOf 28 = .ok (.iload_n 2, 1) := by decide +kernel
theorem d_Fi_livesOf_29 : decode zb_Fi_livesOf 29 = .ok (.aload_n 0, 1) := by decide +kernel
theorem d_Fi_livesOf_30 : decode zb_Fi_livesOf 30 = .ok (.getfield 16, 3) := by decide +kernel
theorem d_Fi_livesOf_33 : decode zb_Fi_livesOf 33 = .ok (.iload_n 3, 1) := by decide +kernel
theorem d_Fi_livesOf_34 : decode zb_Fi_livesOf 34 = .ok (.iconst 2, 1) := by decide +kernel
theorem d_Fi_livesOf_35 : decode zb_Fi_livesOf 35 = .ok (.invokevirtual 36, 3) := by decide +kernel
theorem d_Fi_livesOf_38 : decode zb_Fi_livesOf 38 = .ok (.iadd, 1) := by decide +kernel
theorem d_Fi_livesOf_39 : decode zb_Fi_livesOf 39 = .ok (.istore_n 2, 1) := by decide +kernel
theorem d_Fi_livesOf_40 : decode zb_Fi_livesOf 40 = .ok (.iinc 3 1, 3) := by decide +kernel
theorem d_Fi_livesOf_43 : decode zb_Fi_livesOf 43 = .ok (.goto (-39), 3) := by decide +kernel
theorem d_Fi_livesOf_46 : decode zb_Fi_livesOf 46 = .ok (.iload_n 2, 1) := by decide +kernel
theorem d_Fi_livesOf_47 : decode zb_Fi_livesOf 47 = .ok (.ireturn, 1) := by decide +kernel
def k_Fi_livesOf_4 (x : zsF) (l1 : Int32) : Nat → Int32 → Int32 → Option (Int32)
  | 0, _, _ => none
  | fu + 1, l2, l3 => (k_Ta_used 13 104 x.2.1).bind fun o1 => (if l3 < o1 then (k_Ta_get 13 104 x.2.1 l3 ((0 : Int32))).bind fun o3 => (if o3 = l1 then (k_Ta_get 13 104 x.2.1 l3 ((2 : Int32))).bind fun o5 => k_Fi_livesOf_4 x l1 fu ((l2 + o5)) ((l3 + (1 : Int32))) else k_Fi_livesOf_4 x l1 fu l2 ((l3 + (1 : Int32)))) else some l2)
set_option maxRecDepth 20000 in
theorem w_Fi_livesOf_4 {X : zX} {c : zY} {q : Nat → Nat} {x : zsF} {l1 : Int32} {out : Int32} (hX : Ok X zr_Fi zb_Fi_livesOf 4 1 c) (hR : Rt X (some .int) (some (.int out)) (zwF c q x)) : ∀ (fu : Nat) (l2 : Int32) (l3 : Int32), k_Fi_livesOf_4 x l1 fu l2 l3 = some out → Go X (zwF c q x) [(0, .ref ((q 6))), (1, .int l1), (2, .int l2), (3, .int l3)] 4 [] := by
  intro fu
  induction fu with
  | zero => intro l2 l3 h; rw [k_Fi_livesOf_4] at h; cases h
  | succ fu ih =>
    intro l2 l3 h
    rw [k_Fi_livesOf_4] at h
    refine g_iload_n (pc := 4) hX d_Fi_livesOf_4 rfl 3 rfl ?_
    refine g_aload_n (pc := 5) hX d_Fi_livesOf_5 rfl 0 rfl ?_
    refine gf_Fi_16 (pc := 6) (v := .ref ((q 7))) hX 6 rfl rfl d_Fi_livesOf_6 ?_
    obtain ⟨o1, e1, h⟩ := zbind h
    refine g_cvI (pc := 9)  (st := [.int l3]) (w' := (zwF c q x)) hX zk_Ta_used zs_Ta_used zL_Fi_28 (c_Ta_used c (q 7) (q 8) 13 104 x.2.1 e1) rfl rfl rfl rfl (sp_Fi_Ta_7 c q x) (sp_Fi_Ta_7 c q x).symm 7 6 rfl rfl rfl d_Fi_livesOf_9 ?_
    refine g_icmp_ge (pc := 12) (tgt := 46) hX d_Fi_livesOf_12 (by decide) h (fun c2 h => ?_) (fun c2 h => ?_)
    · refine g_iload_n (pc := 46) hX d_Fi_livesOf_46 rfl 2 rfl ?_
      obtain rfl := Option.some.inj h
      exact g_iret (pc := 47) hX hR d_Fi_livesOf_47
    · refine g_aload_n (pc := 15) hX d_Fi_livesOf_15 rfl 0 rfl ?_
      refine gf_Fi_16 (pc := 16) (v := .ref ((q 7))) hX 6 rfl rfl d_Fi_livesOf_16 ?_
      refine g_iload_n (pc := 19) hX d_Fi_livesOf_19 rfl 3 rfl ?_
      refine g_iconst (pc := 20) hX d_Fi_livesOf_20 zc_0 ?_
      obtain ⟨o3, e3, h⟩ := zbind h
      refine g_cvI (pc := 21)  (st := []) (w' := (zwF c q x)) hX zk_Ta_get zs_Ta_get zL_Fi_36 (c_Ta_get c (q 7) (q 8) 13 104 x.2.1 l3 ((0 : Int32)) e3) rfl rfl rfl rfl (sp_Fi_Ta_7 c q x) (sp_Fi_Ta_7 c q x).symm 7 6 rfl rfl rfl d_Fi_livesOf_21 ?_
      refine g_iload_n (pc := 24) hX d_Fi_livesOf_24 rfl 1 rfl ?_
      refine g_icmp_ne (pc := 25) (tgt := 40) hX d_Fi_livesOf_25 (by decide) h (fun c4 h => ?_) (fun c4 h => ?_)
      · refine g_iinc (pc := 40) (q := 3) (L' := [(3, .int ((l3 + (1 : Int32)))), (0, .ref ((q 6))), (1, .int l1), (2, .int l2)]) hX d_Fi_livesOf_40 rfl zc_1 rfl rfl ?_
        refine g_goto (pc := 43) (tgt := 4) hX d_Fi_livesOf_43 (by decide) ?_
        refine g_ls (L' := [(0, .ref ((q 6))), (1, .int l1), (2, .int l2), (3, .int ((l3 + (1 : Int32))))]) [1, 2, 3, 0] rfl ?_
        exact ih _ _ h
      · refine g_iload_n (pc := 28) hX d_Fi_livesOf_28 rfl 2 rfl ?_
        refine g_aload_n (pc := 29) hX d_Fi_livesOf_29 rfl 0 rfl ?_
        refine gf_Fi_16 (pc := 30) (v := .ref ((q 7))) hX 6 rfl rfl d_Fi_livesOf_30 ?_
        refine g_iload_n (pc := 33) hX d_Fi_livesOf_33 rfl 3 rfl ?_
        refine g_iconst (pc := 34) hX d_Fi_livesOf_34 zc_2 ?_
        obtain ⟨o5, e5, h⟩ := zbind h
        refine g_cvI (pc := 35)  (st := [.int l2]) (w' := (zwF c q x)) hX zk_Ta_get zs_Ta_get zL_Fi_36 (c_Ta_get c (q 7) (q 8) 13 104 x.2.1 l3 ((2 : Int32)) e5) rfl rfl rfl rfl (sp_Fi_Ta_7 c q x) (sp_Fi_Ta_7 c q x).symm 7 6 rfl rfl rfl d_Fi_livesOf_35 ?_
        refine g_iadd (pc := 38) hX d_Fi_livesOf_38 ?_
        refine g_istore_n (pc := 39) (L' := [(2, .int ((l2 + o5))), (0, .ref ((q 6))), (1, .int l1), (3, .int l3)]) hX d_Fi_livesOf_39 rfl rfl rfl ?_
        refine g_iinc (pc := 40) (q := 3) (L' := [(3, .int ((l3 + (1 : Int32)))), (2, .int ((l2 + o5))), (0, .ref ((q 6))), (1, .int l1)]) hX d_Fi_livesOf_40 rfl zc_1 rfl rfl ?_
        refine g_goto (pc := 43) (tgt := 4) hX d_Fi_livesOf_43 (by decide) ?_
        refine g_ls (L' := [(0, .ref ((q 6))), (1, .int l1), (2, .int ((l2 + o5))), (3, .int ((l3 + (1 : Int32))))]) [2, 3, 1, 0] rfl ?_
        exact ih _ _ h
def k_Fi_livesOf (x : zsF) (l1 : Int32) : Option (Int32) := k_Fi_livesOf_4 x l1 zFu ((0 : Int32)) ((0 : Int32))
set_option maxRecDepth 20000 in
theorem c_Fi_livesOf (c : zY) (q : Nat → Nat) (x : zsF) (l1 : Int32) {out : Int32} (h : k_Fi_livesOf x l1 = some out) : KM zy_Fi_livesOf zb_Fi_livesOf 4 (some .int) 1 c [.ref ((q 6)), .int l1] (zwF c q x) (zwF c q x) (some (.int out)) := zK_of zp_Fi rfl (Nat.le_of_ble_eq_true rfl) (zq_Fi c q _ _) (fun X hX hR => by
  show Go X (zwF c q x) [(0, .ref ((q 6))), (1, .int l1)] 0 []
  rw [k_Fi_livesOf] at h
  refine g_iconst (pc := 0) hX d_Fi_livesOf_0 zc_0 ?_
  refine g_istore_n (pc := 1) (L' := [(2, .int ((0 : Int32))), (0, .ref ((q 6))), (1, .int l1)]) hX d_Fi_livesOf_1 rfl rfl rfl ?_
  refine g_iconst (pc := 2) hX d_Fi_livesOf_2 zc_0 ?_
  refine g_istore_n (pc := 3) (L' := [(3, .int ((0 : Int32))), (2, .int ((0 : Int32))), (0, .ref ((q 6))), (1, .int l1)]) hX d_Fi_livesOf_3 rfl rfl rfl ?_
  refine g_ls (L' := [(0, .ref ((q 6))), (1, .int l1), (2, .int ((0 : Int32))), (3, .int ((0 : Int32)))]) [2, 3, 1, 0] rfl ?_
  exact w_Fi_livesOf_4 hX hR _ _ _ h)
theorem d_Fi_moveTo_0 : decode zb_Fi_moveTo 0 = .ok (.aload_n 0, 1) := by decide +kernel
theorem d_Fi_moveTo_1 : decode zb_Fi_moveTo 1 = .ok (.getfield 16, 3) := by decide +kernel
theorem d_Fi_moveTo_4 : decode zb_Fi_moveTo 4 = .ok (.iload_n 1, 1) := by decide +kernel
theorem d_Fi_moveTo_5 : decode zb_Fi_moveTo 5 = .ok (.iconst 1, 1) := by decide +kernel
theorem d_Fi_moveTo_6 : decode zb_Fi_moveTo 6 = .ok (.iload_n 2, 1) := by decide +kernel
theorem d_Fi_moveTo_7 : decode zb_Fi_moveTo 7 = .ok (.invokevirtual 40, 3) := by decide +kernel
theorem d_Fi_moveTo_10 : decode zb_Fi_moveTo 10 = .ok (.aload_n 0, 1) := by decide +kernel
theorem d_Fi_moveTo_11 : decode zb_Fi_moveTo 11 = .ok (.getfield 24, 3) := by decide +kernel
theorem d_Fi_moveTo_14 : decode zb_Fi_moveTo 14 = .ok (.bipush 7, 2) := by decide +kernel
theorem d_Fi_moveTo_16 : decode zb_Fi_moveTo 16 = .ok (.iload_n 1, 1) := by decide +kernel
theorem d_Fi_moveTo_17 : decode zb_Fi_moveTo 17 = .ok (.iload_n 2, 1) := by decide +kernel
theorem d_Fi_moveTo_18 : decode zb_Fi_moveTo 18 = .ok (.invokevirtual 46, 3) := by decide +kernel
theorem d_Fi_moveTo_21 : decode zb_Fi_moveTo 21 = .ok (.return_, 1) := by decide +kernel
def k_Fi_moveTo (x : zsF) (l1 : Int32) (l2 : Int32) : Option (zsF) := (k_Ta_set 13 104 x.2.1 l1 ((1 : Int32)) l2).bind fun o1 => (k_Jo_write x.1.1 ((7 : Int32)) l1 l2).bind fun o2 => some (((o2, x.1.2.1, x.1.2.2), o1, x.2.2))
set_option maxRecDepth 20000 in
theorem c_Fi_moveTo (c : zY) (q : Nat → Nat) (x : zsF) (l1 : Int32) (l2 : Int32) {out : zsF} (h : k_Fi_moveTo x l1 l2 = some out) : KM zy_Fi_moveTo zb_Fi_moveTo 3 none 1 c [.ref ((q 6)), .int l1, .int l2] (zwF c q x) (zwF c q out) none := zK_of zp_Fi rfl (Nat.le_of_ble_eq_true rfl) (zq_Fi c q _ _) (fun X hX hR => by
  show Go X (zwF c q x) [(0, .ref ((q 6))), (1, .int l1), (2, .int l2)] 0 []
  rw [k_Fi_moveTo] at h
  refine g_aload_n (pc := 0) hX d_Fi_moveTo_0 rfl 0 rfl ?_
  refine gf_Fi_16 (pc := 1) (v := .ref ((q 7))) hX 6 rfl rfl d_Fi_moveTo_1 ?_
  refine g_iload_n (pc := 4) hX d_Fi_moveTo_4 rfl 1 rfl ?_
  refine g_iconst (pc := 5) hX d_Fi_moveTo_5 zc_1 ?_
  refine g_iload_n (pc := 6) hX d_Fi_moveTo_6 rfl 2 rfl ?_
  obtain ⟨o1, e1, h⟩ := zbind h
  refine g_cvV (pc := 7)  (st := []) (w' := (zwF c q ((x.1, o1, x.2.2)))) hX zk_Ta_set zs_Ta_set zL_Fi_40 (c_Ta_set c (q 7) (q 8) 13 104 x.2.1 l1 ((1 : Int32)) l2 e1) rfl rfl rfl rfl (sp_Fi_Ta_7 c q x) (sq_Fi_Ta_7 c q x o1) 7 6 rfl rfl rfl d_Fi_moveTo_7 ?_
  refine g_aload_n (pc := 10) hX d_Fi_moveTo_10 rfl 0 rfl ?_
  refine gf_Fi_24 (pc := 11) (v := .ref ((q 0))) hX 6 rfl rfl d_Fi_moveTo_11 ?_
  refine g_bipush (pc := 14) hX d_Fi_moveTo_14 ze_7 ?_
  refine g_iload_n (pc := 16) hX d_Fi_moveTo_16 rfl 1 rfl ?_
  refine g_iload_n (pc := 17) hX d_Fi_moveTo_17 rfl 2 rfl ?_
  obtain ⟨o2, e2, h⟩ := zbind h
  refine g_cvV (pc := 18)  (st := []) (w' := (zwF c q (((o2, x.1.2.1, x.1.2.2), o1, x.2.2)))) hX zk_Jo_write zs_Jo_write zL_Fi_46 (c_Jo_write c q x.1.1 ((7 : Int32)) l1 l2 e2) rfl rfl rfl rfl (sp_Fi_Jo_0 c q ((x.1, o1, x.2.2))) (sq_Fi_Jo_0 c q ((x.1, o1, x.2.2)) o2) 0 4 rfl rfl rfl d_Fi_moveTo_18 ?_
  obtain rfl := Option.some.inj h
  exact g_vret (pc := 21) hX hR d_Fi_moveTo_21)
theorem d_Fi_lose_0 : decode zb_Fi_lose 0 = .ok (.aload_n 0, 1) := by decide +kernel
theorem d_Fi_lose_1 : decode zb_Fi_lose 1 = .ok (.getfield 16, 3) := by decide +kernel
theorem d_Fi_lose_4 : decode zb_Fi_lose 4 = .ok (.iload_n 1, 1) := by decide +kernel
theorem d_Fi_lose_5 : decode zb_Fi_lose 5 = .ok (.iconst 2, 1) := by decide +kernel
theorem d_Fi_lose_6 : decode zb_Fi_lose 6 = .ok (.invokevirtual 36, 3) := by decide +kernel
theorem d_Fi_lose_9 : decode zb_Fi_lose 9 = .ok (.istore_n 3, 1) := by decide +kernel
theorem d_Fi_lose_10 : decode zb_Fi_lose 10 = .ok (.iload_n 3, 1) := by decide +kernel
theorem d_Fi_lose_11 : decode zb_Fi_lose 11 = .ok (.iload_n 2, 1) := by decide +kernel
theorem d_Fi_lose_12 : decode zb_Fi_lose 12 = .ok (.invokestatic 62, 3) := by decide +kernel
theorem d_Fi_lose_15 : decode zb_Fi_lose 15 = .ok (.istore 4, 2) := by decide +kernel
theorem d_Fi_lose_17 : decode zb_Fi_lose 17 = .ok (.iload 4, 2) := by decide +kernel
theorem d_Fi_lose_19 : decode zb_Fi_lose 19 = .ok (.ifCond .gt 5, 3) := by decide +kernel
theorem d_Fi_lose_22 : decode zb_Fi_lose 22 = .ok (.iconst 0, 1) := by decide +kernel
theorem d_Fi_lose_23 : decode zb_Fi_lose 23 = .ok (.ireturn, 1) := by decide +kernel
theorem d_Fi_lose_24 : decode zb_Fi_lose 24 = .ok (.aload_n 0, 1) := by decide +kernel
theorem d_Fi_lose_25 : decode zb_Fi_lose 25 = .ok (.getfield 16, 3) := by decide +kernel
theorem d_Fi_lose_28 : decode zb_Fi_lose 28 = .ok (.iload_n 1, 1) := by decide +kernel
theorem d_Fi_lose_29 : decode zb_Fi_lose 29 = .ok (.iconst 2, 1) := by decide +kernel
theorem d_Fi_lose_30 : decode zb_Fi_lose 30 = .ok (.iload_n 3, 1) := by decide +kernel
theorem d_Fi_lose_31 : decode zb_Fi_lose 31 = .ok (.iload 4, 2) := by decide +kernel
theorem d_Fi_lose_33 : decode zb_Fi_lose 33 = .ok (.isub, 1) := by decide +kernel
theorem d_Fi_lose_34 : decode zb_Fi_lose 34 = .ok (.invokevirtual 40, 3) := by decide +kernel
theorem d_Fi_lose_37 : decode zb_Fi_lose 37 = .ok (.aload_n 0, 1) := by decide +kernel
theorem d_Fi_lose_38 : decode zb_Fi_lose 38 = .ok (.dup, 1) := by decide +kernel
theorem d_Fi_lose_39 : decode zb_Fi_lose 39 = .ok (.getfield 67, 3) := by decide +kernel
theorem d_Fi_lose_42 : decode zb_Fi_lose 42 = .ok (.iload 4, 2) := by decide +kernel
theorem d_Fi_lose_44 : decode zb_Fi_lose 44 = .ok (.iadd, 1) := by decide +kernel
theorem d_Fi_lose_45 : decode zb_Fi_lose 45 = .ok (.putfield 67, 3) := by decide +kernel
theorem d_Fi_lose_48 : decode zb_Fi_lose 48 = .ok (.aload_n 0, 1) := by decide +kernel
theorem d_Fi_lose_49 : decode zb_Fi_lose 49 = .ok (.getfield 24, 3) := by decide +kernel
theorem d_Fi_lose_52 : decode zb_Fi_lose 52 = .ok (.iconst 1, 1) := by decide +kernel
theorem d_Fi_lose_53 : decode zb_Fi_lose 53 = .ok (.iload_n 1, 1) := by decide +kernel
theorem d_Fi_lose_54 : decode zb_Fi_lose 54 = .ok (.iload 4, 2) := by decide +kernel
theorem d_Fi_lose_56 : decode zb_Fi_lose 56 = .ok (.invokevirtual 46, 3) := by decide +kernel
theorem d_Fi_lose_59 : decode zb_Fi_lose 59 = .ok (.iload 4, 2) := by decide +kernel
theorem d_Fi_lose_61 : decode zb_Fi_lose 61 = .ok (.iload_n 3, 1) := by decide +kernel
theorem d_Fi_lose_62 : decode zb_Fi_lose 62 = .ok (.if_icmp .ne 14, 3) := by decide +kernel
theorem d_Fi_lose_65 : decode zb_Fi_lose 65 = .ok (.aload_n 0, 1) := by decide +kernel
theorem d_Fi_lose_66 : decode zb_Fi_lose 66 = .ok (.getfield 20, 3) := by decide +kernel
theorem d_Fi_lose_69 : decode zb_Fi_lose 69 = .ok (.iload_n 1, 1) := by decide +kernel
theorem d_Fi_lose_70 : decode zb_Fi_lose 70 = .ok (.invokevirtual 71, 3) := by decide +kernel
theorem d_Fi_lose_73 : decode zb_Fi_lose 73 = .ok (.goto 11, 3) := by decide +kernel
theorem d_Fi_lose_76 : decode zb_Fi_lose 76 = .ok (.aload_n 0, 1) := by decide +kernel
theorem d_Fi_lose_77 : decode zb_Fi_lose 77 = .ok (.getfield 20, 3) := by decide +kernel
theorem d_Fi_lose_80 : decode zb_Fi_lose 80 = .ok (.iload_n 1, 1) := by decide +kernel
theorem d_Fi_lose_81 : decode zb_Fi_lose 81 = .ok (.invokevirtual 75, 3) := by decide +kernel
theorem d_Fi_lose_84 : decode zb_Fi_lose 84 = .ok (.iload 4, 2) := by decide +kernel
theorem d_Fi_lose_86 : decode zb_Fi_lose 86 = .ok (.ireturn, 1) := by decide +kernel
def k_Fi_lose (x : zsF) (l1 : Int32) (l2 : Int32) : Option (Int32 × zsF) := (k_Ta_get 13 104 x.2.1 l1 ((2 : Int32))).bind fun o1 => (if 0 < (zmin o1 l2) then (k_Ta_set 13 104 x.2.1 l1 ((2 : Int32)) ((o1 - (zmin o1 l2)))).bind fun o3 => (k_Jo_write x.1.1 ((1 : Int32)) l1 ((zmin o1 l2))).bind fun o4 => (if (zmin o1 l2) = o1 then (k_Co_endAllOf ((o4, x.1.2.1, x.1.2.2)) l1).bind fun o7 => some ((zmin o1 l2), (o7, o3, (upd x.2.2 3 (((x.2.2 3) + (zmin o1 l2)))))) else (k_Co_endHarmedOf ((o4, x.1.2.1, x.1.2.2)) l1).bind fun o6 => some ((zmin o1 l2), (o6, o3, (upd x.2.2 3 (((x.2.2 3) + (zmin o1 l2))))))) else some ((0 : Int32), x))
set_option maxRecDepth 20000 in
theorem c_Fi_lose (c : zY) (q : Nat → Nat) (x : zsF) (l1 : Int32) (l2 : Int32) {out : Int32 × zsF} (h : k_Fi_lose x l1 l2 = some out) : KM zy_Fi_lose zb_Fi_lose 5 (some .int) 4 c [.ref ((q 6)), .int l1, .int l2] (zwF c q x) (zwF c q out.2) (some (.int out.1)) := zK_of zp_Fi rfl (Nat.le_of_ble_eq_true rfl) (zq_Fi c q _ _) (fun X hX hR => by
  show Go X (zwF c q x) [(0, .ref ((q 6))), (1, .int l1), (2, .int l2)] 0 []
  rw [k_Fi_lose] at h
  refine g_aload_n (pc := 0) hX d_Fi_lose_0 rfl 0 rfl ?_
  refine gf_Fi_16 (pc := 1) (v := .ref ((q 7))) hX 6 rfl rfl d_Fi_lose_1 ?_
  refine g_iload_n (pc := 4) hX d_Fi_lose_4 rfl 1 rfl ?_
  refine g_iconst (pc := 5) hX d_Fi_lose_5 zc_2 ?_
  obtain ⟨o1, e1, h⟩ := zbind h
  refine g_cvI (pc := 6)  (st := []) (w' := (zwF c q x)) hX zk_Ta_get zs_Ta_get zL_Fi_36 (c_Ta_get c (q 7) (q 8) 13 104 x.2.1 l1 ((2 : Int32)) e1) rfl rfl rfl rfl (sp_Fi_Ta_7 c q x) (sp_Fi_Ta_7 c q x).symm 7 6 rfl rfl rfl d_Fi_lose_6 ?_
  refine g_istore_n (pc := 9) (L' := [(3, .int o1), (0, .ref ((q 6))), (1, .int l1), (2, .int l2)]) hX d_Fi_lose_9 rfl rfl rfl ?_
  refine g_iload_n (pc := 10) hX d_Fi_lose_10 rfl 0 rfl ?_
  refine g_iload_n (pc := 11) hX d_Fi_lose_11 rfl 3 rfl ?_
  refine g_mmin (pc := 12) hX zL_Fi_62 rfl rfl d_Fi_lose_12 ?_
  refine g_istore (pc := 15) (L' := [(4, .int ((zmin o1 l2))), (3, .int o1), (0, .ref ((q 6))), (1, .int l1), (2, .int l2)]) hX d_Fi_lose_15 rfl rfl ?_
  refine g_iload (pc := 17) hX d_Fi_lose_17 0 rfl ?_
  refine g_if_gt (pc := 19) (tgt := 24) hX d_Fi_lose_19 (by decide) h (fun c2 h => ?_) (fun c2 h => ?_)
  · refine g_aload_n (pc := 24) hX d_Fi_lose_24 rfl 2 rfl ?_
    refine gf_Fi_16 (pc := 25) (v := .ref ((q 7))) hX 6 rfl rfl d_Fi_lose_25 ?_
    refine g_iload_n (pc := 28) hX d_Fi_lose_28 rfl 3 rfl ?_
    refine g_iconst (pc := 29) hX d_Fi_lose_29 zc_2 ?_
    refine g_iload_n (pc := 30) hX d_Fi_lose_30 rfl 1 rfl ?_
    refine g_iload (pc := 31) hX d_Fi_lose_31 0 rfl ?_
    refine g_isub (pc := 33) hX d_Fi_lose_33 ?_
    obtain ⟨o3, e3, h⟩ := zbind h
    refine g_cvV (pc := 34)  (st := []) (w' := (zwF c q ((x.1, o3, x.2.2)))) hX zk_Ta_set zs_Ta_set zL_Fi_40 (c_Ta_set c (q 7) (q 8) 13 104 x.2.1 l1 ((2 : Int32)) ((o1 - (zmin o1 l2))) e3) rfl rfl rfl rfl (sp_Fi_Ta_7 c q x) (sq_Fi_Ta_7 c q x o3) 7 6 rfl rfl rfl d_Fi_lose_34 ?_
    refine g_aload_n (pc := 37) hX d_Fi_lose_37 rfl 2 rfl ?_
    refine g_dup (pc := 38) hX d_Fi_lose_38 rfl ?_
    refine gf_Fi_67 (pc := 39) (v := .int ((x.2.2 3))) hX 6 rfl rfl d_Fi_lose_39 ?_
    refine g_iload (pc := 42) hX d_Fi_lose_42 0 rfl ?_
    refine g_iadd (pc := 44) hX d_Fi_lose_44 ?_
    refine pf_Fi_67 (pc := 45) (w2 := (zwF c q ((x.1, o3, (upd x.2.2 3 (((x.2.2 3) + (zmin o1 l2)))))))) hX 6 rfl rfl (su_Fi_6_3 c q ((x.1, o3, x.2.2)) (((x.2.2 3) + (zmin o1 l2)))) d_Fi_lose_45 ?_
    refine g_aload_n (pc := 48) hX d_Fi_lose_48 rfl 2 rfl ?_
    refine gf_Fi_24 (pc := 49) (v := .ref ((q 0))) hX 6 rfl rfl d_Fi_lose_49 ?_
    refine g_iconst (pc := 52) hX d_Fi_lose_52 zc_1 ?_
    refine g_iload_n (pc := 53) hX d_Fi_lose_53 rfl 3 rfl ?_
    refine g_iload (pc := 54) hX d_Fi_lose_54 0 rfl ?_
    obtain ⟨o4, e4, h⟩ := zbind h
    refine g_cvV (pc := 56)  (st := []) (w' := (zwF c q (((o4, x.1.2.1, x.1.2.2), o3, (upd x.2.2 3 (((x.2.2 3) + (zmin o1 l2)))))))) hX zk_Jo_write zs_Jo_write zL_Fi_46 (c_Jo_write c q x.1.1 ((1 : Int32)) l1 ((zmin o1 l2)) e4) rfl rfl rfl rfl (sp_Fi_Jo_0 c q ((x.1, o3, (upd x.2.2 3 (((x.2.2 3) + (zmin o1 l2))))))) (sq_Fi_Jo_0 c q ((x.1, o3, (upd x.2.2 3 (((x.2.2 3) + (zmin o1 l2)))))) o4) 0 4 rfl rfl rfl d_Fi_lose_56 ?_
    refine g_iload (pc := 59) hX d_Fi_lose_59 0 rfl ?_
    refine g_iload_n (pc := 61) hX d_Fi_lose_61 rfl 1 rfl ?_
    refine g_icmp_ne (pc := 62) (tgt := 76) hX d_Fi_lose_62 (by decide) h (fun c5 h => ?_) (fun c5 h => ?_)
    · refine g_aload_n (pc := 76) hX d_Fi_lose_76 rfl 2 rfl ?_
      refine gf_Fi_20 (pc := 77) (v := .ref ((q 2))) hX 6 rfl rfl d_Fi_lose_77 ?_
      refine g_iload_n (pc := 80) hX d_Fi_lose_80 rfl 3 rfl ?_
      obtain ⟨o6, e6, h⟩ := zbind h
      refine g_cvV (pc := 81)  (st := []) (w' := (zwF c q ((o6, o3, (upd x.2.2 3 (((x.2.2 3) + (zmin o1 l2)))))))) hX zk_Co_endHarmedOf zs_Co_endHarmedOf zL_Fi_75 (c_Co_endHarmedOf c q ((o4, x.1.2.1, x.1.2.2)) l1 e6) rfl rfl rfl rfl (sp_Fi_Co_0 c q (((o4, x.1.2.1, x.1.2.2), o3, (upd x.2.2 3 (((x.2.2 3) + (zmin o1 l2))))))) (sq_Fi_Co_0 c q (((o4, x.1.2.1, x.1.2.2), o3, (upd x.2.2 3 (((x.2.2 3) + (zmin o1 l2)))))) o6) 2 1 rfl rfl rfl d_Fi_lose_81 ?_
      refine g_iload (pc := 84) hX d_Fi_lose_84 0 rfl ?_
      obtain rfl := Option.some.inj h
      exact g_iret (pc := 86) hX hR d_Fi_lose_86
    · refine g_aload_n (pc := 65) hX d_Fi_lose_65 rfl 2 rfl ?_
      refine gf_Fi_20 (pc := 66) (v := .ref ((q 2))) hX 6 rfl rfl d_Fi_lose_66 ?_
      refine g_iload_n (pc := 69) hX d_Fi_lose_69 rfl 3 rfl ?_
      obtain ⟨o7, e7, h⟩ := zbind h
      refine g_cvV (pc := 70)  (st := []) (w' := (zwF c q ((o7, o3, (upd x.2.2 3 (((x.2.2 3) + (zmin o1 l2)))))))) hX zk_Co_endAllOf zs_Co_endAllOf zL_Fi_71 (c_Co_endAllOf c q ((o4, x.1.2.1, x.1.2.2)) l1 e7) rfl rfl rfl rfl (sp_Fi_Co_0 c q (((o4, x.1.2.1, x.1.2.2), o3, (upd x.2.2 3 (((x.2.2 3) + (zmin o1 l2))))))) (sq_Fi_Co_0 c q (((o4, x.1.2.1, x.1.2.2), o3, (upd x.2.2 3 (((x.2.2 3) + (zmin o1 l2)))))) o7) 2 1 rfl rfl rfl d_Fi_lose_70 ?_
      refine g_goto (pc := 73) (tgt := 84) hX d_Fi_lose_73 (by decide) ?_
      refine g_iload (pc := 84) hX d_Fi_lose_84 0 rfl ?_
      obtain rfl := Option.some.inj h
      exact g_iret (pc := 86) hX hR d_Fi_lose_86
  · refine g_iconst (pc := 22) hX d_Fi_lose_22 zc_0 ?_
    obtain rfl := Option.some.inj h
    exact g_iret (pc := 23) hX hR d_Fi_lose_23)
theorem d_Fi_hurt_0 : decode zb_Fi_hurt 0 = .ok (.aload_n 0, 1) := by decide +kernel
theorem d_Fi_hurt_1 : decode zb_Fi_hurt 1 = .ok (.iload_n 1, 1) := by decide +kernel
theorem d_Fi_hurt_2 : decode zb_Fi_hurt 2 = .ok (.iload_n 2, 1) := by decide +kernel
theorem d_Fi_hurt_3 : decode zb_Fi_hurt 3 = .ok (.aload_n 0, 1) := by decide +kernel
theorem d_Fi_hurt_4 : decode zb_Fi_hurt 4 = .ok (.getfield 20, 3) := by decide +kernel
theorem d_Fi_hurt_7 : decode zb_Fi_hurt 7 = .ok (.iload_n 1, 1) := by decide +kernel
theorem d_Fi_hurt_8 : decode zb_Fi_hurt 8 = .ok (.iconst 4, 1) := by decide +kernel
theorem d_Fi_hurt_9 : decode zb_Fi_hurt 9 = .ok (.invokevirtual 54, 3) := by decide +kernel
theorem d_Fi_hurt_12 : decode zb_Fi_hurt 12 = .ok (.iadd, 1) := by decide +kernel
theorem d_Fi_hurt_13 : decode zb_Fi_hurt 13 = .ok (.aload_n 0, 1) := by decide +kernel
theorem d_Fi_hurt_14 : decode zb_Fi_hurt 14 = .ok (.getfield 20, 3) := by decide +kernel
theorem d_Fi_hurt_17 : decode zb_Fi_hurt 17 = .ok (.iload_n 1, 1) := by decide +kernel
theorem d_Fi_hurt_18 : decode zb_Fi_hurt 18 = .ok (.iconst 2, 1) := by decide +kernel
theorem d_Fi_hurt_19 : decode zb_Fi_hurt 19 = .ok (.invokevirtual 54, 3) := by decide +kernel
theorem d_Fi_hurt_22 : decode zb_Fi_hurt 22 = .ok (.isub, 1) := by decide +kernel
theorem d_Fi_hurt_23 : decode zb_Fi_hurt 23 = .ok (.invokevirtual 59, 3) := by decide +kernel
theorem d_Fi_hurt_26 : decode zb_Fi_hurt 26 = .ok (.ireturn, 1) := by decide +kernel
def k_Fi_hurt (x : zsF) (l1 : Int32) (l2 : Int32) : Option (Int32 × zsF) := (k_Co_sumOf x.1 l1 ((4 : Int32))).bind fun o1 => (k_Co_sumOf x.1 l1 ((2 : Int32))).bind fun o2 => (k_Fi_lose x l1 (((l2 + o1) - o2))).bind fun o3 => some (o3.1, o3.2)
set_option maxRecDepth 20000 in
theorem c_Fi_hurt (c : zY) (q : Nat → Nat) (x : zsF) (l1 : Int32) (l2 : Int32) {out : Int32 × zsF} (h : k_Fi_hurt x l1 l2 = some out) : KM zy_Fi_hurt zb_Fi_hurt 3 (some .int) 5 c [.ref ((q 6)), .int l1, .int l2] (zwF c q x) (zwF c q out.2) (some (.int out.1)) := zK_of zp_Fi rfl (Nat.le_of_ble_eq_true rfl) (zq_Fi c q _ _) (fun X hX hR => by
  show Go X (zwF c q x) [(0, .ref ((q 6))), (1, .int l1), (2, .int l2)] 0 []
  rw [k_Fi_hurt] at h
  refine g_aload_n (pc := 0) hX d_Fi_hurt_0 rfl 0 rfl ?_
  refine g_iload_n (pc := 1) hX d_Fi_hurt_1 rfl 1 rfl ?_
  refine g_iload_n (pc := 2) hX d_Fi_hurt_2 rfl 2 rfl ?_
  refine g_aload_n (pc := 3) hX d_Fi_hurt_3 rfl 0 rfl ?_
  refine gf_Fi_20 (pc := 4) (v := .ref ((q 2))) hX 6 rfl rfl d_Fi_hurt_4 ?_
  refine g_iload_n (pc := 7) hX d_Fi_hurt_7 rfl 1 rfl ?_
  refine g_iconst (pc := 8) hX d_Fi_hurt_8 zc_4 ?_
  obtain ⟨o1, e1, h⟩ := zbind h
  refine g_cvI (pc := 9)  (st := [.int l2, .int l1, .ref ((q 6))]) (w' := (zwF c q x)) hX zk_Co_sumOf zs_Co_sumOf zL_Fi_54 (c_Co_sumOf c q x.1 l1 ((4 : Int32)) e1) rfl rfl rfl rfl (sp_Fi_Co_0 c q x) (sp_Fi_Co_0 c q x).symm 2 1 rfl rfl rfl d_Fi_hurt_9 ?_
  refine g_iadd (pc := 12) hX d_Fi_hurt_12 ?_
  refine g_aload_n (pc := 13) hX d_Fi_hurt_13 rfl 0 rfl ?_
  refine gf_Fi_20 (pc := 14) (v := .ref ((q 2))) hX 6 rfl rfl d_Fi_hurt_14 ?_
  refine g_iload_n (pc := 17) hX d_Fi_hurt_17 rfl 1 rfl ?_
  refine g_iconst (pc := 18) hX d_Fi_hurt_18 zc_2 ?_
  obtain ⟨o2, e2, h⟩ := zbind h
  refine g_cvI (pc := 19)  (st := [.int ((l2 + o1)), .int l1, .ref ((q 6))]) (w' := (zwF c q x)) hX zk_Co_sumOf zs_Co_sumOf zL_Fi_54 (c_Co_sumOf c q x.1 l1 ((2 : Int32)) e2) rfl rfl rfl rfl (sp_Fi_Co_0 c q x) (sp_Fi_Co_0 c q x).symm 2 1 rfl rfl rfl d_Fi_hurt_19 ?_
  refine g_isub (pc := 22) hX d_Fi_hurt_22 ?_
  obtain ⟨o3, e3, h⟩ := zbind h
  refine g_cvI (pc := 23) (w1 := []) (w2 := []) (st := []) (w' := (zwF c q o3.2)) hX zk_Fi_lose zs_Fi_lose zL_Fi_59 (c_Fi_lose c q x l1 (((l2 + o1) - o2)) e3) rfl rfl rfl rfl (zself _) (zself _).symm 6 3 rfl rfl rfl d_Fi_hurt_23 ?_
  obtain rfl := Option.some.inj h
  exact g_iret (pc := 26) hX hR d_Fi_hurt_26)
theorem d_Fi_sufferPoisons_0 : decode zb_Fi_sufferPoisons 0 = .ok (.aload_n 0, 1) := by decide +kernel
theorem d_Fi_sufferPoisons_1 : decode zb_Fi_sufferPoisons 1 = .ok (.getfield 20, 3) := by decide +kernel
theorem d_Fi_sufferPoisons_4 : decode zb_Fi_sufferPoisons 4 = .ok (.iload_n 1, 1) := by decide +kernel
theorem d_Fi_sufferPoisons_5 : decode zb_Fi_sufferPoisons 5 = .ok (.invokevirtual 78, 3) := by decide +kernel
theorem d_Fi_sufferPoisons_8 : decode zb_Fi_sufferPoisons 8 = .ok (.istore_n 2, 1) := by decide +kernel
theorem d_Fi_sufferPoisons_9 : decode zb_Fi_sufferPoisons 9 = .ok (.iconst 0, 1) := by decide +kernel
theorem d_Fi_sufferPoisons_10 : decode zb_Fi_sufferPoisons 10 = .ok (.istore_n 3, 1) := by decide +kernel
theorem d_Fi_sufferPoisons_11 : decode zb_Fi_sufferPoisons 11 = .ok (.iload_n 3, 1) := by decide +kernel
theorem d_Fi_sufferPoisons_12 : decode zb_Fi_sufferPoisons 12 = .ok (.iload_n 2, 1) := by decide +kernel
theorem d_Fi_sufferPoisons_13 : decode zb_Fi_sufferPoisons 13 = .ok (.if_icmp .ge 24, 3) := by decide +kernel
theorem d_Fi_sufferPoisons_16 : decode zb_Fi_sufferPoisons 16 = .ok (.aload_n 0, 1) := by decide +kernel
theorem d_Fi_sufferPoisons_17 : decode zb_Fi_sufferPoisons 17 = .ok (.iload_n 1, 1) := by decide +kernel
theorem d_Fi_sufferPoisons_18 : decode zb_Fi_sufferPoisons 18 = .ok (.aload_n 0, 1) := by decide +kernel
theorem d_Fi_sufferPoisons_19 : decode zb_Fi_sufferPoisons 19 = .ok (.getfield 20, 3) := by decide +kernel
theorem d_Fi_sufferPoisons_22 : decode zb_Fi_sufferPoisons 22 = .ok (.iload_n 3, 1) := by decide +kernel
theorem d_Fi_sufferPoisons_23 : decode zb_Fi_sufferPoisons 23 = .ok (.iload_n 1, 1) := by decide +kernel
theorem d_Fi_sufferPoisons_24 : decode zb_Fi_sufferPoisons 24 = .ok (.invokevirtual 82, 3) := by decide +kernel
theorem d_Fi_sufferPoisons_27 : decode zb_Fi_sufferPoisons 27 = .ok (.invokevirtual 59, 3) := by decide +kernel
theorem d_Fi_sufferPoisons_30 : decode zb_Fi_sufferPoisons 30 = .ok (.pop, 1) := by decide +kernel
theorem d_Fi_sufferPoisons_31 : decode zb_Fi_sufferPoisons 31 = .ok (.iinc 3 1, 3) := by decide +kernel
theorem d_Fi_sufferPoisons_34 : decode zb_Fi_sufferPoisons 34 = .ok (.goto (-23), 3) := by decide +kernel
theorem d_Fi_sufferPoisons_37 : decode zb_Fi_sufferPoisons 37 = .ok (.return_, 1) := by decide +kernel
def k_Fi_sufferPoisons_11 (l1 : Int32) : Nat → Int32 → Int32 → zsF → Option (zsF)
  | 0, _, _, _ => none
  | fu + 1, l2, l3, x => (if l3 < l2 then (k_Co_poisonBy x.1 l3 l1).bind fun o3 => (k_Fi_lose x l1 o3).bind fun o4 => k_Fi_sufferPoisons_11 l1 fu l2 ((l3 + (1 : Int32))) o4.2 else some x)
set_option maxRecDepth 20000 in
theorem w_Fi_sufferPoisons_11 {X : zX} {c : zY} {q : Nat → Nat} {l1 : Int32} {out : zsF} (hX : Ok X zr_Fi zb_Fi_sufferPoisons 4 5 c) (hR : Rt X none none (zwF c q out)) : ∀ (fu : Nat) (l2 : Int32) (l3 : Int32) (x : zsF), k_Fi_sufferPoisons_11 l1 fu l2 l3 x = some out → Go X (zwF c q x) [(0, .ref ((q 6))), (1, .int l1), (2, .int l2), (3, .int l3)] 11 [] := by
  intro fu
  induction fu with
  | zero => intro l2 l3 x h; rw [k_Fi_sufferPoisons_11] at h; cases h
  | succ fu ih =>
    intro l2 l3 x h
    rw [k_Fi_sufferPoisons_11] at h
    refine g_iload_n (pc := 11) hX d_Fi_sufferPoisons_11 rfl 3 rfl ?_
    refine g_iload_n (pc := 12) hX d_Fi_sufferPoisons_12 rfl 2 rfl ?_
    refine g_icmp_ge (pc := 13) (tgt := 37) hX d_Fi_sufferPoisons_13 (by decide) h (fun c2 h => ?_) (fun c2 h => ?_)
    · obtain rfl := Option.some.inj h
      exact g_vret (pc := 37) hX hR d_Fi_sufferPoisons_37
    · refine g_aload_n (pc := 16) hX d_Fi_sufferPoisons_16 rfl 0 rfl ?_
      refine g_iload_n (pc := 17) hX d_Fi_sufferPoisons_17 rfl 1 rfl ?_
      refine g_aload_n (pc := 18) hX d_Fi_sufferPoisons_18 rfl 0 rfl ?_
      refine gf_Fi_20 (pc := 19) (v := .ref ((q 2))) hX 6 rfl rfl d_Fi_sufferPoisons_19 ?_
      refine g_iload_n (pc := 22) hX d_Fi_sufferPoisons_22 rfl 3 rfl ?_
      refine g_iload_n (pc := 23) hX d_Fi_sufferPoisons_23 rfl 1 rfl ?_
      obtain ⟨o3, e3, h⟩ := zbind h
      refine g_cvI (pc := 24)  (st := [.int l1, .ref ((q 6))]) (w' := (zwF c q x)) hX zk_Co_poisonBy zs_Co_poisonBy zL_Fi_82 (c_Co_poisonBy c q x.1 l3 l1 e3) rfl rfl rfl rfl (sp_Fi_Co_0 c q x) (sp_Fi_Co_0 c q x).symm 2 1 rfl rfl rfl d_Fi_sufferPoisons_24 ?_
      obtain ⟨o4, e4, h⟩ := zbind h
      refine g_cvI (pc := 27) (w1 := []) (w2 := []) (st := []) (w' := (zwF c q o4.2)) hX zk_Fi_lose zs_Fi_lose zL_Fi_59 (c_Fi_lose c q x l1 o3 e4) rfl rfl rfl rfl (zself _) (zself _).symm 6 3 rfl rfl rfl d_Fi_sufferPoisons_27 ?_
      refine g_pop (pc := 30) hX d_Fi_sufferPoisons_30 rfl ?_
      refine g_iinc (pc := 31) (q := 3) (L' := [(3, .int ((l3 + (1 : Int32)))), (0, .ref ((q 6))), (1, .int l1), (2, .int l2)]) hX d_Fi_sufferPoisons_31 rfl zc_1 rfl rfl ?_
      refine g_goto (pc := 34) (tgt := 11) hX d_Fi_sufferPoisons_34 (by decide) ?_
      refine g_ls (L' := [(0, .ref ((q 6))), (1, .int l1), (2, .int l2), (3, .int ((l3 + (1 : Int32))))]) [1, 2, 3, 0] rfl ?_
      exact ih _ _ _ h
def k_Fi_sufferPoisons (x : zsF) (l1 : Int32) : Option (zsF) := (k_Co_listPoisoners x.1 l1).bind fun o1 => k_Fi_sufferPoisons_11 l1 zFu o1.1 ((0 : Int32)) ((o1.2, x.2.1, x.2.2))
set_option maxRecDepth 20000 in
theorem c_Fi_sufferPoisons (c : zY) (q : Nat → Nat) (x : zsF) (l1 : Int32) {out : zsF} (h : k_Fi_sufferPoisons x l1 = some out) : KM zy_Fi_sufferPoisons zb_Fi_sufferPoisons 4 none 5 c [.ref ((q 6)), .int l1] (zwF c q x) (zwF c q out) none := zK_of zp_Fi rfl (Nat.le_of_ble_eq_true rfl) (zq_Fi c q _ _) (fun X hX hR => by
  show Go X (zwF c q x) [(0, .ref ((q 6))), (1, .int l1)] 0 []
  rw [k_Fi_sufferPoisons] at h
  refine g_aload_n (pc := 0) hX d_Fi_sufferPoisons_0 rfl 0 rfl ?_
  refine gf_Fi_20 (pc := 1) (v := .ref ((q 2))) hX 6 rfl rfl d_Fi_sufferPoisons_1 ?_
  refine g_iload_n (pc := 4) hX d_Fi_sufferPoisons_4 rfl 1 rfl ?_
  obtain ⟨o1, e1, h⟩ := zbind h
  refine g_cvI (pc := 5)  (st := []) (w' := (zwF c q ((o1.2, x.2.1, x.2.2)))) hX zk_Co_listPoisoners zs_Co_listPoisoners zL_Fi_78 (c_Co_listPoisoners c q x.1 l1 e1) rfl rfl rfl rfl (sp_Fi_Co_0 c q x) (sq_Fi_Co_0 c q x o1.2) 2 1 rfl rfl rfl d_Fi_sufferPoisons_5 ?_
  refine g_istore_n (pc := 8) (L' := [(2, .int o1.1), (0, .ref ((q 6))), (1, .int l1)]) hX d_Fi_sufferPoisons_8 rfl rfl rfl ?_
  refine g_iconst (pc := 9) hX d_Fi_sufferPoisons_9 zc_0 ?_
  refine g_istore_n (pc := 10) (L' := [(3, .int ((0 : Int32))), (2, .int o1.1), (0, .ref ((q 6))), (1, .int l1)]) hX d_Fi_sufferPoisons_10 rfl rfl rfl ?_
  refine g_ls (L' := [(0, .ref ((q 6))), (1, .int l1), (2, .int o1.1), (3, .int ((0 : Int32)))]) [2, 3, 1, 0] rfl ?_
  exact w_Fi_sufferPoisons_11 hX hR _ _ _ _ h)
theorem d_Fi_mend_0 : decode zb_Fi_mend 0 = .ok (.aload_n 0, 1) := by decide +kernel
theorem d_Fi_mend_1 : decode zb_Fi_mend 1 = .ok (.getfield 16, 3) := by decide +kernel
theorem d_Fi_mend_4 : decode zb_Fi_mend 4 = .ok (.iload_n 1, 1) := by decide +kernel
theorem d_Fi_mend_5 : decode zb_Fi_mend 5 = .ok (.iconst 2, 1) := by decide +kernel
theorem d_Fi_mend_6 : decode zb_Fi_mend 6 = .ok (.invokevirtual 36, 3) := by decide +kernel
theorem d_Fi_mend_9 : decode zb_Fi_mend 9 = .ok (.istore_n 3, 1) := by decide +kernel
theorem d_Fi_mend_10 : decode zb_Fi_mend 10 = .ok (.iload_n 2, 1) := by decide +kernel
theorem d_Fi_mend_11 : decode zb_Fi_mend 11 = .ok (.aload_n 0, 1) := by decide +kernel
theorem d_Fi_mend_12 : decode zb_Fi_mend 12 = .ok (.getfield 16, 3) := by decide +kernel
theorem d_Fi_mend_15 : decode zb_Fi_mend 15 = .ok (.iload_n 1, 1) := by decide +kernel
theorem d_Fi_mend_16 : decode zb_Fi_mend 16 = .ok (.iconst 3, 1) := by decide +kernel
theorem d_Fi_mend_17 : decode zb_Fi_mend 17 = .ok (.invokevirtual 36, 3) := by decide +kernel
theorem d_Fi_mend_20 : decode zb_Fi_mend 20 = .ok (.iload_n 3, 1) := by decide +kernel
theorem d_Fi_mend_21 : decode zb_Fi_mend 21 = .ok (.isub, 1) := by decide +kernel
theorem d_Fi_mend_22 : decode zb_Fi_mend 22 = .ok (.invokestatic 62, 3) := by decide +kernel
theorem d_Fi_mend_25 : decode zb_Fi_mend 25 = .ok (.istore 4, 2) := by decide +kernel
theorem d_Fi_mend_27 : decode zb_Fi_mend 27 = .ok (.iload 4, 2) := by decide +kernel
theorem d_Fi_mend_29 : decode zb_Fi_mend 29 = .ok (.ifCond .gt 5, 3) := by decide +kernel
theorem d_Fi_mend_32 : decode zb_Fi_mend 32 = .ok (.iconst 0, 1) := by decide +kernel
theorem d_Fi_mend_33 : decode zb_Fi_mend 33 = .ok (.ireturn, 1) := by decide +kernel
theorem d_Fi_mend_34 : decode zb_Fi_mend 34 = .ok (.aload_n 0, 1) := by decide +kernel
theorem d_Fi_mend_35 : decode zb_Fi_mend 35 = .ok (.getfield 16, 3) := by decide +kernel
theorem d_Fi_mend_38 : decode zb_Fi_mend 38 = .ok (.iload_n 1, 1) := by decide +kernel
theorem d_Fi_mend_39 : decode zb_Fi_mend 39 = .ok (.iconst 2, 1) := by decide +kernel
theorem d_Fi_mend_40 : decode zb_Fi_mend 40 = .ok (.iload_n 3, 1) := by decide +kernel
theorem d_Fi_mend_41 : decode zb_Fi_mend 41 = .ok (.iload 4, 2) := by decide +kernel
theorem d_Fi_mend_43 : decode zb_Fi_mend 43 = .ok (.iadd, 1) := by decide +kernel
theorem d_Fi_mend_44 : decode zb_Fi_mend 44 = .ok (.invokevirtual 40, 3) := by decide +kernel
theorem d_Fi_mend_47 : decode zb_Fi_mend 47 = .ok (.aload_n 0, 1) := by decide +kernel
theorem d_Fi_mend_48 : decode zb_Fi_mend 48 = .ok (.dup, 1) := by decide +kernel
theorem d_Fi_mend_49 : decode zb_Fi_mend 49 = .ok (.getfield 85, 3) := by decide +kernel
theorem d_Fi_mend_52 : decode zb_Fi_mend 52 = .ok (.iload 4, 2) := by decide +kernel
theorem d_Fi_mend_54 : decode zb_Fi_mend 54 = .ok (.iadd, 1) := by decide +kernel
theorem d_Fi_mend_55 : decode zb_Fi_mend 55 = .ok (.putfield 85, 3) := by decide +kernel
theorem d_Fi_mend_58 : decode zb_Fi_mend 58 = .ok (.aload_n 0, 1) := by decide +kernel
theorem d_Fi_mend_59 : decode zb_Fi_mend 59 = .ok (.getfield 24, 3) := by decide +kernel
theorem d_Fi_mend_62 : decode zb_Fi_mend 62 = .ok (.iconst 2, 1) := by decide +kernel
theorem d_Fi_mend_63 : decode zb_Fi_mend 63 = .ok (.iload_n 1, 1) := by decide +kernel
theorem d_Fi_mend_64 : decode zb_Fi_mend 64 = .ok (.iload 4, 2) := by decide +kernel
theorem d_Fi_mend_66 : decode zb_Fi_mend 66 = .ok (.invokevirtual 46, 3) := by decide +kernel
theorem d_Fi_mend_69 : decode zb_Fi_mend 69 = .ok (.iload 4, 2) := by decide +kernel
theorem d_Fi_mend_71 : decode zb_Fi_mend 71 = .ok (.ireturn, 1) := by decide +kernel
def k_Fi_mend (x : zsF) (l1 : Int32) (l2 : Int32) : Option (Int32 × zsF) := (k_Ta_get 13 104 x.2.1 l1 ((2 : Int32))).bind fun o1 => (k_Ta_get 13 104 x.2.1 l1 ((3 : Int32))).bind fun o2 => (if 0 < (zmin l2 ((o2 - o1))) then (k_Ta_set 13 104 x.2.1 l1 ((2 : Int32)) ((o1 + (zmin l2 ((o2 - o1)))))).bind fun o4 => (k_Jo_write x.1.1 ((2 : Int32)) l1 ((zmin l2 ((o2 - o1))))).bind fun o5 => some ((zmin l2 ((o2 - o1))), ((o5, x.1.2.1, x.1.2.2), o4, (upd x.2.2 4 (((x.2.2 4) + (zmin l2 ((o2 - o1)))))))) else some ((0 : Int32), x))
set_option maxRecDepth 20000 in
theorem c_Fi_mend (c : zY) (q : Nat → Nat) (x : zsF) (l1 : Int32) (l2 : Int32) {out : Int32 × zsF} (h : k_Fi_mend x l1 l2 = some out) : KM zy_Fi_mend zb_Fi_mend 5 (some .int) 1 c [.ref ((q 6)), .int l1, .int l2] (zwF c q x) (zwF c q out.2) (some (.int out.1)) := zK_of zp_Fi rfl (Nat.le_of_ble_eq_true rfl) (zq_Fi c q _ _) (fun X hX hR => by
  show Go X (zwF c q x) [(0, .ref ((q 6))), (1, .int l1), (2, .int l2)] 0 []
  rw [k_Fi_mend] at h
  refine g_aload_n (pc := 0) hX d_Fi_mend_0 rfl 0 rfl ?_
  refine gf_Fi_16 (pc := 1) (v := .ref ((q 7))) hX 6 rfl rfl d_Fi_mend_1 ?_
  refine g_iload_n (pc := 4) hX d_Fi_mend_4 rfl 1 rfl ?_
  refine g_iconst (pc := 5) hX d_Fi_mend_5 zc_2 ?_
  obtain ⟨o1, e1, h⟩ := zbind h
  refine g_cvI (pc := 6)  (st := []) (w' := (zwF c q x)) hX zk_Ta_get zs_Ta_get zL_Fi_36 (c_Ta_get c (q 7) (q 8) 13 104 x.2.1 l1 ((2 : Int32)) e1) rfl rfl rfl rfl (sp_Fi_Ta_7 c q x) (sp_Fi_Ta_7 c q x).symm 7 6 rfl rfl rfl d_Fi_mend_6 ?_
  refine g_istore_n (pc := 9) (L' := [(3, .int o1), (0, .ref ((q 6))), (1, .int l1), (2, .int l2)]) hX d_Fi_mend_9 rfl rfl rfl ?_
  refine g_iload_n (pc := 10) hX d_Fi_mend_10 rfl 3 rfl ?_
  refine g_aload_n (pc := 11) hX d_Fi_mend_11 rfl 1 rfl ?_
  refine gf_Fi_16 (pc := 12) (v := .ref ((q 7))) hX 6 rfl rfl d_Fi_mend_12 ?_
  refine g_iload_n (pc := 15) hX d_Fi_mend_15 rfl 2 rfl ?_
  refine g_iconst (pc := 16) hX d_Fi_mend_16 zc_3 ?_
  obtain ⟨o2, e2, h⟩ := zbind h
  refine g_cvI (pc := 17)  (st := [.int l2]) (w' := (zwF c q x)) hX zk_Ta_get zs_Ta_get zL_Fi_36 (c_Ta_get c (q 7) (q 8) 13 104 x.2.1 l1 ((3 : Int32)) e2) rfl rfl rfl rfl (sp_Fi_Ta_7 c q x) (sp_Fi_Ta_7 c q x).symm 7 6 rfl rfl rfl d_Fi_mend_17 ?_
  refine g_iload_n (pc := 20) hX d_Fi_mend_20 rfl 0 rfl ?_
  refine g_isub (pc := 21) hX d_Fi_mend_21 ?_
  refine g_mmin (pc := 22) hX zL_Fi_62 rfl rfl d_Fi_mend_22 ?_
  refine g_istore (pc := 25) (L' := [(4, .int ((zmin l2 ((o2 - o1))))), (3, .int o1), (0, .ref ((q 6))), (1, .int l1), (2, .int l2)]) hX d_Fi_mend_25 rfl rfl ?_
  refine g_iload (pc := 27) hX d_Fi_mend_27 0 rfl ?_
  refine g_if_gt (pc := 29) (tgt := 34) hX d_Fi_mend_29 (by decide) h (fun c3 h => ?_) (fun c3 h => ?_)
  · refine g_aload_n (pc := 34) hX d_Fi_mend_34 rfl 2 rfl ?_
    refine gf_Fi_16 (pc := 35) (v := .ref ((q 7))) hX 6 rfl rfl d_Fi_mend_35 ?_
    refine g_iload_n (pc := 38) hX d_Fi_mend_38 rfl 3 rfl ?_
    refine g_iconst (pc := 39) hX d_Fi_mend_39 zc_2 ?_
    refine g_iload_n (pc := 40) hX d_Fi_mend_40 rfl 1 rfl ?_
    refine g_iload (pc := 41) hX d_Fi_mend_41 0 rfl ?_
    refine g_iadd (pc := 43) hX d_Fi_mend_43 ?_
    obtain ⟨o4, e4, h⟩ := zbind h
    refine g_cvV (pc := 44)  (st := []) (w' := (zwF c q ((x.1, o4, x.2.2)))) hX zk_Ta_set zs_Ta_set zL_Fi_40 (c_Ta_set c (q 7) (q 8) 13 104 x.2.1 l1 ((2 : Int32)) ((o1 + (zmin l2 ((o2 - o1))))) e4) rfl rfl rfl rfl (sp_Fi_Ta_7 c q x) (sq_Fi_Ta_7 c q x o4) 7 6 rfl rfl rfl d_Fi_mend_44 ?_
    refine g_aload_n (pc := 47) hX d_Fi_mend_47 rfl 2 rfl ?_
    refine g_dup (pc := 48) hX d_Fi_mend_48 rfl ?_
    refine gf_Fi_85 (pc := 49) (v := .int ((x.2.2 4))) hX 6 rfl rfl d_Fi_mend_49 ?_
    refine g_iload (pc := 52) hX d_Fi_mend_52 0 rfl ?_
    refine g_iadd (pc := 54) hX d_Fi_mend_54 ?_
    refine pf_Fi_85 (pc := 55) (w2 := (zwF c q ((x.1, o4, (upd x.2.2 4 (((x.2.2 4) + (zmin l2 ((o2 - o1)))))))))) hX 6 rfl rfl (su_Fi_6_4 c q ((x.1, o4, x.2.2)) (((x.2.2 4) + (zmin l2 ((o2 - o1)))))) d_Fi_mend_55 ?_
    refine g_aload_n (pc := 58) hX d_Fi_mend_58 rfl 2 rfl ?_
    refine gf_Fi_24 (pc := 59) (v := .ref ((q 0))) hX 6 rfl rfl d_Fi_mend_59 ?_
    refine g_iconst (pc := 62) hX d_Fi_mend_62 zc_2 ?_
    refine g_iload_n (pc := 63) hX d_Fi_mend_63 rfl 3 rfl ?_
    refine g_iload (pc := 64) hX d_Fi_mend_64 0 rfl ?_
    obtain ⟨o5, e5, h⟩ := zbind h
    refine g_cvV (pc := 66)  (st := []) (w' := (zwF c q (((o5, x.1.2.1, x.1.2.2), o4, (upd x.2.2 4 (((x.2.2 4) + (zmin l2 ((o2 - o1)))))))))) hX zk_Jo_write zs_Jo_write zL_Fi_46 (c_Jo_write c q x.1.1 ((2 : Int32)) l1 ((zmin l2 ((o2 - o1)))) e5) rfl rfl rfl rfl (sp_Fi_Jo_0 c q ((x.1, o4, (upd x.2.2 4 (((x.2.2 4) + (zmin l2 ((o2 - o1))))))))) (sq_Fi_Jo_0 c q ((x.1, o4, (upd x.2.2 4 (((x.2.2 4) + (zmin l2 ((o2 - o1)))))))) o5) 0 4 rfl rfl rfl d_Fi_mend_66 ?_
    refine g_iload (pc := 69) hX d_Fi_mend_69 0 rfl ?_
    obtain rfl := Option.some.inj h
    exact g_iret (pc := 71) hX hR d_Fi_mend_71
  · refine g_iconst (pc := 32) hX d_Fi_mend_32 zc_0 ?_
    obtain rfl := Option.some.inj h
    exact g_iret (pc := 33) hX hR d_Fi_mend_33)
theorem d_Fi_spend_0 : decode zb_Fi_spend 0 = .ok (.iload_n 3, 1) := by decide +kernel
theorem d_Fi_spend_1 : decode zb_Fi_spend 1 = .ok (.ifCond .le 44, 3) := by decide +kernel
theorem d_Fi_spend_4 : decode zb_Fi_spend 4 = .ok (.aload_n 0, 1) := by decide +kernel
theorem d_Fi_spend_5 : decode zb_Fi_spend 5 = .ok (.getfield 16, 3) := by decide +kernel
theorem d_Fi_spend_8 : decode zb_Fi_spend 8 = .ok (.iload_n 1, 1) := by decide +kernel
theorem d_Fi_spend_9 : decode zb_Fi_spend 9 = .ok (.bipush 7, 2) := by decide +kernel
theorem d_Fi_spend_11 : decode zb_Fi_spend 11 = .ok (.iload_n 2, 1) := by decide +kernel
theorem d_Fi_spend_12 : decode zb_Fi_spend 12 = .ok (.iadd, 1) := by decide +kernel
theorem d_Fi_spend_13 : decode zb_Fi_spend 13 = .ok (.aload_n 0, 1) := by decide +kernel
theorem d_Fi_spend_14 : decode zb_Fi_spend 14 = .ok (.getfield 16, 3) := by decide +kernel
theorem d_Fi_spend_17 : decode zb_Fi_spend 17 = .ok (.iload_n 1, 1) := by decide +kernel
theorem d_Fi_spend_18 : decode zb_Fi_spend 18 = .ok (.bipush 7, 2) := by decide +kernel
theorem d_Fi_spend_20 : decode zb_Fi_spend 20 = .ok (.iload_n 2, 1) := by decide +kernel
theorem d_Fi_spend_21 : decode zb_Fi_spend 21 = .ok (.iadd, 1) := by decide +kernel
theorem d_Fi_spend_22 : decode zb_Fi_spend 22 = .ok (.invokevirtual 36, 3) := by decide +kernel
theorem d_Fi_spend_25 : decode zb_Fi_spend 25 = .ok (.iload_n 3, 1) := by decide +kernel
theorem d_Fi_spend_26 : decode zb_Fi_spend 26 = .ok (.isub, 1) := by decide +kernel
theorem d_Fi_spend_27 : decode zb_Fi_spend 27 = .ok (.invokevirtual 40, 3) := by decide +kernel
theorem d_Fi_spend_30 : decode zb_Fi_spend 30 = .ok (.aload_n 0, 1) := by decide +kernel
theorem d_Fi_spend_31 : decode zb_Fi_spend 31 = .ok (.getfield 24, 3) := by decide +kernel
theorem d_Fi_spend_34 : decode zb_Fi_spend 34 = .ok (.iconst 5, 1) := by decide +kernel
theorem d_Fi_spend_35 : decode zb_Fi_spend 35 = .ok (.iload_n 1, 1) := by decide +kernel
theorem d_Fi_spend_36 : decode zb_Fi_spend 36 = .ok (.bipush 10, 2) := by decide +kernel
theorem d_Fi_spend_38 : decode zb_Fi_spend 38 = .ok (.iload_n 2, 1) := by decide +kernel
theorem d_Fi_spend_39 : decode zb_Fi_spend 39 = .ok (.imul, 1) := by decide +kernel
theorem d_Fi_spend_40 : decode zb_Fi_spend 40 = .ok (.iload_n 3, 1) := by decide +kernel
theorem d_Fi_spend_41 : decode zb_Fi_spend 41 = .ok (.iadd, 1) := by decide +kernel
theorem d_Fi_spend_42 : decode zb_Fi_spend 42 = .ok (.invokevirtual 46, 3) := by decide +kernel
theorem d_Fi_spend_45 : decode zb_Fi_spend 45 = .ok (.return_, 1) := by decide +kernel
def k_Fi_spend (x : zsF) (l1 : Int32) (l2 : Int32) (l3 : Int32) : Option (zsF) := (if 0 < l3 then (k_Ta_get 13 104 x.2.1 l1 (((7 : Int32) + l2))).bind fun o2 => (k_Ta_set 13 104 x.2.1 l1 (((7 : Int32) + l2)) ((o2 - l3))).bind fun o3 => (k_Jo_write x.1.1 ((5 : Int32)) l1 ((((10 : Int32) * l2) + l3))).bind fun o4 => some (((o4, x.1.2.1, x.1.2.2), o3, x.2.2)) else some x)
set_option maxRecDepth 20000 in
theorem c_Fi_spend (c : zY) (q : Nat → Nat) (x : zsF) (l1 : Int32) (l2 : Int32) (l3 : Int32) {out : zsF} (h : k_Fi_spend x l1 l2 l3 = some out) : KM zy_Fi_spend zb_Fi_spend 4 none 1 c [.ref ((q 6)), .int l1, .int l2, .int l3] (zwF c q x) (zwF c q out) none := zK_of zp_Fi rfl (Nat.le_of_ble_eq_true rfl) (zq_Fi c q _ _) (fun X hX hR => by
  show Go X (zwF c q x) [(0, .ref ((q 6))), (1, .int l1), (2, .int l2), (3, .int l3)] 0 []
  rw [k_Fi_spend] at h
  refine g_iload_n (pc := 0) hX d_Fi_spend_0 rfl 3 rfl ?_
  refine g_if_le (pc := 1) (tgt := 45) hX d_Fi_spend_1 (by decide) h (fun c1 h => ?_) (fun c1 h => ?_)
  · obtain rfl := Option.some.inj h
    exact g_vret (pc := 45) hX hR d_Fi_spend_45
  · refine g_aload_n (pc := 4) hX d_Fi_spend_4 rfl 0 rfl ?_
    refine gf_Fi_16 (pc := 5) (v := .ref ((q 7))) hX 6 rfl rfl d_Fi_spend_5 ?_
    refine g_iload_n (pc := 8) hX d_Fi_spend_8 rfl 1 rfl ?_
    refine g_bipush (pc := 9) hX d_Fi_spend_9 ze_7 ?_
    refine g_iload_n (pc := 11) hX d_Fi_spend_11 rfl 2 rfl ?_
    refine g_iadd (pc := 12) hX d_Fi_spend_12 ?_
    refine g_aload_n (pc := 13) hX d_Fi_spend_13 rfl 0 rfl ?_
    refine gf_Fi_16 (pc := 14) (v := .ref ((q 7))) hX 6 rfl rfl d_Fi_spend_14 ?_
    refine g_iload_n (pc := 17) hX d_Fi_spend_17 rfl 1 rfl ?_
    refine g_bipush (pc := 18) hX d_Fi_spend_18 ze_7 ?_
    refine g_iload_n (pc := 20) hX d_Fi_spend_20 rfl 2 rfl ?_
    refine g_iadd (pc := 21) hX d_Fi_spend_21 ?_
    obtain ⟨o2, e2, h⟩ := zbind h
    refine g_cvI (pc := 22)  (st := [.int (((7 : Int32) + l2)), .int l1, .ref ((q 7))]) (w' := (zwF c q x)) hX zk_Ta_get zs_Ta_get zL_Fi_36 (c_Ta_get c (q 7) (q 8) 13 104 x.2.1 l1 (((7 : Int32) + l2)) e2) rfl rfl rfl rfl (sp_Fi_Ta_7 c q x) (sp_Fi_Ta_7 c q x).symm 7 6 rfl rfl rfl d_Fi_spend_22 ?_
    refine g_iload_n (pc := 25) hX d_Fi_spend_25 rfl 3 rfl ?_
    refine g_isub (pc := 26) hX d_Fi_spend_26 ?_
    obtain ⟨o3, e3, h⟩ := zbind h
    refine g_cvV (pc := 27)  (st := []) (w' := (zwF c q ((x.1, o3, x.2.2)))) hX zk_Ta_set zs_Ta_set zL_Fi_40 (c_Ta_set c (q 7) (q 8) 13 104 x.2.1 l1 (((7 : Int32) + l2)) ((o2 - l3)) e3) rfl rfl rfl rfl (sp_Fi_Ta_7 c q x) (sq_Fi_Ta_7 c q x o3) 7 6 rfl rfl rfl d_Fi_spend_27 ?_
    refine g_aload_n (pc := 30) hX d_Fi_spend_30 rfl 0 rfl ?_
    refine gf_Fi_24 (pc := 31) (v := .ref ((q 0))) hX 6 rfl rfl d_Fi_spend_31 ?_
    refine g_iconst (pc := 34) hX d_Fi_spend_34 zc_5 ?_
    refine g_iload_n (pc := 35) hX d_Fi_spend_35 rfl 1 rfl ?_
    refine g_bipush (pc := 36) hX d_Fi_spend_36 ze_10 ?_
    refine g_iload_n (pc := 38) hX d_Fi_spend_38 rfl 2 rfl ?_
    refine g_imul (pc := 39) hX d_Fi_spend_39 ?_
    refine g_iload_n (pc := 40) hX d_Fi_spend_40 rfl 3 rfl ?_
    refine g_iadd (pc := 41) hX d_Fi_spend_41 ?_
    obtain ⟨o4, e4, h⟩ := zbind h
    refine g_cvV (pc := 42)  (st := []) (w' := (zwF c q (((o4, x.1.2.1, x.1.2.2), o3, x.2.2)))) hX zk_Jo_write zs_Jo_write zL_Fi_46 (c_Jo_write c q x.1.1 ((5 : Int32)) l1 ((((10 : Int32) * l2) + l3)) e4) rfl rfl rfl rfl (sp_Fi_Jo_0 c q ((x.1, o3, x.2.2))) (sq_Fi_Jo_0 c q ((x.1, o3, x.2.2)) o4) 0 4 rfl rfl rfl d_Fi_spend_42 ?_
    obtain rfl := Option.some.inj h
    exact g_vret (pc := 45) hX hR d_Fi_spend_45)
theorem d_Fi_refill_0 : decode zb_Fi_refill 0 = .ok (.aload_n 0, 1) := by decide +kernel
theorem d_Fi_refill_1 : decode zb_Fi_refill 1 = .ok (.getfield 16, 3) := by decide +kernel
theorem d_Fi_refill_4 : decode zb_Fi_refill 4 = .ok (.iload_n 1, 1) := by decide +kernel
theorem d_Fi_refill_5 : decode zb_Fi_refill 5 = .ok (.bipush 10, 2) := by decide +kernel
theorem d_Fi_refill_7 : decode zb_Fi_refill 7 = .ok (.iload_n 2, 1) := by decide +kernel
theorem d_Fi_refill_8 : decode zb_Fi_refill 8 = .ok (.iadd, 1) := by decide +kernel
theorem d_Fi_refill_9 : decode zb_Fi_refill 9 = .ok (.invokevirtual 36, 3) := by decide +kernel
theorem d_Fi_refill_12 : decode zb_Fi_refill 12 = .ok (.istore_n 3, 1) := by decide +kernel
theorem d_Fi_refill_13 : decode zb_Fi_refill 13 = .ok (.iload_n 3, 1) := by decide +kernel
theorem d_Fi_refill_14 : decode zb_Fi_refill 14 = .ok (.aload_n 0, 1) := by decide +kernel
theorem d_Fi_refill_15 : decode zb_Fi_refill 15 = .ok (.getfield 16, 3) := by decide +kernel
theorem d_Fi_refill_18 : decode zb_Fi_refill 18 = .ok (.iload_n 1, 1) := by decide +kernel
theorem d_Fi_refill_19 : decode zb_Fi_refill 19 = .ok (.bipush 7, 2) := by decide +kernel
theorem d_Fi_refill_21 : decode zb_Fi_refill 21 = .ok (.iload_n 2, 1) := by decide +kernel
theorem d_Fi_refill_22 : decode zb_Fi_refill 22 = .ok (.iadd, 1) := by decide +kernel
theorem d_Fi_refill_23 : decode zb_Fi_refill 23 = .ok (.invokevirtual 36, 3) := by decide +kernel
theorem d_Fi_refill_26 : decode zb_Fi_refill 26 = .ok (.isub, 1) := by decide +kernel
theorem d_Fi_refill_27 : decode zb_Fi_refill 27 = .ok (.istore 4, 2) := by decide +kernel
theorem d_Fi_refill_29 : decode zb_Fi_refill 29 = .ok (.iload 4, 2) := by decide +kernel
theorem d_Fi_refill_31 : decode zb_Fi_refill 31 = .ok (.ifCond .le 33, 3) := by decide +kernel
theorem d_Fi_refill_34 : decode zb_Fi_refill 34 = .ok (.aload_n 0, 1) := by decide +kernel
theorem d_Fi_refill_35 : decode zb_Fi_refill 35 = .ok (.getfield 16, 3) := by decide +kernel
theorem d_Fi_refill_38 : decode zb_Fi_refill 38 = .ok (.iload_n 1, 1) := by decide +kernel
theorem d_Fi_refill_39 : decode zb_Fi_refill 39 = .ok (.bipush 7, 2) := by decide +kernel
theorem d_Fi_refill_41 : decode zb_Fi_refill 41 = .ok (.iload_n 2, 1) := by decide +kernel
theorem d_Fi_refill_42 : decode zb_Fi_refill 42 = .ok (.iadd, 1) := by decide +kernel
theorem d_Fi_refill_43 : decode zb_Fi_refill 43 = .ok (.iload_n 3, 1) := by decide +kernel
theorem d_Fi_refill_44 : decode zb_Fi_refill 44 = .ok (.invokevirtual 40, 3) := by decide +kernel
theorem d_Fi_refill_47 : decode zb_Fi_refill 47 = .ok (.aload_n 0, 1) := by decide +kernel
theorem d_Fi_refill_48 : decode zb_Fi_refill 48 = .ok (.getfield 24, 3) := by decide +kernel
theorem d_Fi_refill_51 : decode zb_Fi_refill 51 = .ok (.bipush 6, 2) := by decide +kernel
theorem d_Fi_refill_53 : decode zb_Fi_refill 53 = .ok (.iload_n 1, 1) := by decide +kernel
theorem d_Fi_refill_54 : decode zb_Fi_refill 54 = .ok (.bipush 10, 2) := by decide +kernel
theorem d_Fi_refill_56 : decode zb_Fi_refill 56 = .ok (.iload_n 2, 1) := by decide +kernel
theorem d_Fi_refill_57 : decode zb_Fi_refill 57 = .ok (.imul, 1) := by decide +kernel
theorem d_Fi_refill_58 : decode zb_Fi_refill 58 = .ok (.iload 4, 2) := by decide +kernel
theorem d_Fi_refill_60 : decode zb_Fi_refill 60 = .ok (.iadd, 1) := by decide +kernel
theorem d_Fi_refill_61 : decode zb_Fi_refill 61 = .ok (.invokevirtual 46, 3) := by decide +kernel
theorem d_Fi_refill_64 : decode zb_Fi_refill 64 = .ok (.return_, 1) := by decide +kernel
def k_Fi_refill (x : zsF) (l1 : Int32) (l2 : Int32) : Option (zsF) := (k_Ta_get 13 104 x.2.1 l1 (((10 : Int32) + l2))).bind fun o1 => (k_Ta_get 13 104 x.2.1 l1 (((7 : Int32) + l2))).bind fun o2 => (if 0 < (o1 - o2) then (k_Ta_set 13 104 x.2.1 l1 (((7 : Int32) + l2)) o1).bind fun o4 => (k_Jo_write x.1.1 ((6 : Int32)) l1 ((((10 : Int32) * l2) + (o1 - o2)))).bind fun o5 => some (((o5, x.1.2.1, x.1.2.2), o4, x.2.2)) else some x)
set_option maxRecDepth 20000 in
theorem c_Fi_refill (c : zY) (q : Nat → Nat) (x : zsF) (l1 : Int32) (l2 : Int32) {out : zsF} (h : k_Fi_refill x l1 l2 = some out) : KM zy_Fi_refill zb_Fi_refill 5 none 1 c [.ref ((q 6)), .int l1, .int l2] (zwF c q x) (zwF c q out) none := zK_of zp_Fi rfl (Nat.le_of_ble_eq_true rfl) (zq_Fi c q _ _) (fun X hX hR => by
  show Go X (zwF c q x) [(0, .ref ((q 6))), (1, .int l1), (2, .int l2)] 0 []
  rw [k_Fi_refill] at h
  refine g_aload_n (pc := 0) hX d_Fi_refill_0 rfl 0 rfl ?_
  refine gf_Fi_16 (pc := 1) (v := .ref ((q 7))) hX 6 rfl rfl d_Fi_refill_1 ?_
  refine g_iload_n (pc := 4) hX d_Fi_refill_4 rfl 1 rfl ?_
  refine g_bipush (pc := 5) hX d_Fi_refill_5 ze_10 ?_
  refine g_iload_n (pc := 7) hX d_Fi_refill_7 rfl 2 rfl ?_
  refine g_iadd (pc := 8) hX d_Fi_refill_8 ?_
  obtain ⟨o1, e1, h⟩ := zbind h
  refine g_cvI (pc := 9)  (st := []) (w' := (zwF c q x)) hX zk_Ta_get zs_Ta_get zL_Fi_36 (c_Ta_get c (q 7) (q 8) 13 104 x.2.1 l1 (((10 : Int32) + l2)) e1) rfl rfl rfl rfl (sp_Fi_Ta_7 c q x) (sp_Fi_Ta_7 c q x).symm 7 6 rfl rfl rfl d_Fi_refill_9 ?_
  refine g_istore_n (pc := 12) (L' := [(3, .int o1), (0, .ref ((q 6))), (1, .int l1), (2, .int l2)]) hX d_Fi_refill_12 rfl rfl rfl ?_
  refine g_iload_n (pc := 13) hX d_Fi_refill_13 rfl 0 rfl ?_
  refine g_aload_n (pc := 14) hX d_Fi_refill_14 rfl 1 rfl ?_
  refine gf_Fi_16 (pc := 15) (v := .ref ((q 7))) hX 6 rfl rfl d_Fi_refill_15 ?_
  refine g_iload_n (pc := 18) hX d_Fi_refill_18 rfl 2 rfl ?_
  refine g_bipush (pc := 19) hX d_Fi_refill_19 ze_7 ?_
  refine g_iload_n (pc := 21) hX d_Fi_refill_21 rfl 3 rfl ?_
  refine g_iadd (pc := 22) hX d_Fi_refill_22 ?_
  obtain ⟨o2, e2, h⟩ := zbind h
  refine g_cvI (pc := 23)  (st := [.int o1]) (w' := (zwF c q x)) hX zk_Ta_get zs_Ta_get zL_Fi_36 (c_Ta_get c (q 7) (q 8) 13 104 x.2.1 l1 (((7 : Int32) + l2)) e2) rfl rfl rfl rfl (sp_Fi_Ta_7 c q x) (sp_Fi_Ta_7 c q x).symm 7 6 rfl rfl rfl d_Fi_refill_23 ?_
  refine g_isub (pc := 26) hX d_Fi_refill_26 ?_
  refine g_istore (pc := 27) (L' := [(4, .int ((o1 - o2))), (3, .int o1), (0, .ref ((q 6))), (1, .int l1), (2, .int l2)]) hX d_Fi_refill_27 rfl rfl ?_
  refine g_iload (pc := 29) hX d_Fi_refill_29 0 rfl ?_
  refine g_if_le (pc := 31) (tgt := 64) hX d_Fi_refill_31 (by decide) h (fun c3 h => ?_) (fun c3 h => ?_)
  · obtain rfl := Option.some.inj h
    exact g_vret (pc := 64) hX hR d_Fi_refill_64
  · refine g_aload_n (pc := 34) hX d_Fi_refill_34 rfl 2 rfl ?_
    refine gf_Fi_16 (pc := 35) (v := .ref ((q 7))) hX 6 rfl rfl d_Fi_refill_35 ?_
    refine g_iload_n (pc := 38) hX d_Fi_refill_38 rfl 3 rfl ?_
    refine g_bipush (pc := 39) hX d_Fi_refill_39 ze_7 ?_
    refine g_iload_n (pc := 41) hX d_Fi_refill_41 rfl 4 rfl ?_
    refine g_iadd (pc := 42) hX d_Fi_refill_42 ?_
    refine g_iload_n (pc := 43) hX d_Fi_refill_43 rfl 1 rfl ?_
    obtain ⟨o4, e4, h⟩ := zbind h
    refine g_cvV (pc := 44)  (st := []) (w' := (zwF c q ((x.1, o4, x.2.2)))) hX zk_Ta_set zs_Ta_set zL_Fi_40 (c_Ta_set c (q 7) (q 8) 13 104 x.2.1 l1 (((7 : Int32) + l2)) o1 e4) rfl rfl rfl rfl (sp_Fi_Ta_7 c q x) (sq_Fi_Ta_7 c q x o4) 7 6 rfl rfl rfl d_Fi_refill_44 ?_
    refine g_aload_n (pc := 47) hX d_Fi_refill_47 rfl 2 rfl ?_
    refine gf_Fi_24 (pc := 48) (v := .ref ((q 0))) hX 6 rfl rfl d_Fi_refill_48 ?_
    refine g_bipush (pc := 51) hX d_Fi_refill_51 ze_6 ?_
    refine g_iload_n (pc := 53) hX d_Fi_refill_53 rfl 3 rfl ?_
    refine g_bipush (pc := 54) hX d_Fi_refill_54 ze_10 ?_
    refine g_iload_n (pc := 56) hX d_Fi_refill_56 rfl 4 rfl ?_
    refine g_imul (pc := 57) hX d_Fi_refill_57 ?_
    refine g_iload (pc := 58) hX d_Fi_refill_58 0 rfl ?_
    refine g_iadd (pc := 60) hX d_Fi_refill_60 ?_
    obtain ⟨o5, e5, h⟩ := zbind h
    refine g_cvV (pc := 61)  (st := []) (w' := (zwF c q (((o5, x.1.2.1, x.1.2.2), o4, x.2.2)))) hX zk_Jo_write zs_Jo_write zL_Fi_46 (c_Jo_write c q x.1.1 ((6 : Int32)) l1 ((((10 : Int32) * l2) + (o1 - o2))) e5) rfl rfl rfl rfl (sp_Fi_Jo_0 c q ((x.1, o4, x.2.2))) (sq_Fi_Jo_0 c q ((x.1, o4, x.2.2)) o5) 0 4 rfl rfl rfl d_Fi_refill_61 ?_
    obtain rfl := Option.some.inj h
    exact g_vret (pc := 64) hX hR d_Fi_refill_64)
theorem d_Fi_restShort_0 : decode zb_Fi_restShort 0 = .ok (.aload_n 0, 1) := by decide +kernel
theorem d_Fi_restShort_1 : decode zb_Fi_restShort 1 = .ok (.iload_n 1, 1) := by decide +kernel
theorem d_Fi_restShort_2 : decode zb_Fi_restShort 2 = .ok (.invokevirtual 51, 3) := by decide +kernel
theorem d_Fi_restShort_5 : decode zb_Fi_restShort 5 = .ok (.ifCond .eq 7, 3) := by decide +kernel
theorem d_Fi_restShort_8 : decode zb_Fi_restShort 8 = .ok (.iconst 0, 1) := by decide +kernel
theorem d_Fi_restShort_9 : decode zb_Fi_restShort 9 = .ok (.goto 21, 3) := by decide +kernel
theorem d_Fi_restShort_12 : decode zb_Fi_restShort 12 = .ok (.aload_n 0, 1) := by decide +kernel
theorem d_Fi_restShort_13 : decode zb_Fi_restShort 13 = .ok (.iload_n 1, 1) := by decide +kernel
theorem d_Fi_restShort_14 : decode zb_Fi_restShort 14 = .ok (.aload_n 0, 1) := by decide +kernel
theorem d_Fi_restShort_15 : decode zb_Fi_restShort 15 = .ok (.getfield 16, 3) := by decide +kernel
theorem d_Fi_restShort_18 : decode zb_Fi_restShort 18 = .ok (.iload_n 1, 1) := by decide +kernel
theorem d_Fi_restShort_19 : decode zb_Fi_restShort 19 = .ok (.iconst 3, 1) := by decide +kernel
theorem d_Fi_restShort_20 : decode zb_Fi_restShort 20 = .ok (.invokevirtual 36, 3) := by decide +kernel
theorem d_Fi_restShort_23 : decode zb_Fi_restShort 23 = .ok (.iconst 1, 1) := by decide +kernel
theorem d_Fi_restShort_24 : decode zb_Fi_restShort 24 = .ok (.iadd, 1) := by decide +kernel
theorem d_Fi_restShort_25 : decode zb_Fi_restShort 25 = .ok (.iconst 2, 1) := by decide +kernel
theorem d_Fi_restShort_26 : decode zb_Fi_restShort 26 = .ok (.idiv, 1) := by decide +kernel
theorem d_Fi_restShort_27 : decode zb_Fi_restShort 27 = .ok (.invokevirtual 88, 3) := by decide +kernel
theorem d_Fi_restShort_30 : decode zb_Fi_restShort 30 = .ok (.istore_n 2, 1) := by decide +kernel
theorem d_Fi_restShort_31 : decode zb_Fi_restShort 31 = .ok (.aload_n 0, 1) := by decide +kernel
theorem d_Fi_restShort_32 : decode zb_Fi_restShort 32 = .ok (.iload_n 1, 1) := by decide +kernel
theorem d_Fi_restShort_33 : decode zb_Fi_restShort 33 = .ok (.iconst 0, 1) := by decide +kernel
theorem d_Fi_restShort_34 : decode zb_Fi_restShort 34 = .ok (.invokevirtual 91, 3) := by decide +kernel
theorem d_Fi_restShort_37 : decode zb_Fi_restShort 37 = .ok (.iload_n 2, 1) := by decide +kernel
theorem d_Fi_restShort_38 : decode zb_Fi_restShort 38 = .ok (.ireturn, 1) := by decide +kernel
def k_Fi_restShort (x : zsF) (l1 : Int32) : Option (Int32 × zsF) := (k_Fi_isDown x l1).bind fun o1 => (if o1 = 0 then (k_Ta_get 13 104 x.2.1 l1 ((3 : Int32))).bind fun o3 => (k_Fi_mend x l1 (((o3 + (1 : Int32)) / (2 : Int32)))).bind fun o4 => (k_Fi_refill o4.2 l1 ((0 : Int32))).bind fun o5 => some (o4.1, o5) else (k_Fi_refill x l1 ((0 : Int32))).bind fun o6 => some ((0 : Int32), o6))
set_option maxRecDepth 20000 in
theorem c_Fi_restShort (c : zY) (q : Nat → Nat) (x : zsF) (l1 : Int32) {out : Int32 × zsF} (h : k_Fi_restShort x l1 = some out) : KM zy_Fi_restShort zb_Fi_restShort 3 (some .int) 2 c [.ref ((q 6)), .int l1] (zwF c q x) (zwF c q out.2) (some (.int out.1)) := zK_of zp_Fi rfl (Nat.le_of_ble_eq_true rfl) (zq_Fi c q _ _) (fun X hX hR => by
  show Go X (zwF c q x) [(0, .ref ((q 6))), (1, .int l1)] 0 []
  rw [k_Fi_restShort] at h
  refine g_aload_n (pc := 0) hX d_Fi_restShort_0 rfl 0 rfl ?_
  refine g_iload_n (pc := 1) hX d_Fi_restShort_1 rfl 1 rfl ?_
  obtain ⟨o1, e1, h⟩ := zbind h
  refine g_cvI (pc := 2) (w1 := []) (w2 := []) (st := []) (w' := (zwF c q x)) hX zk_Fi_isDown zs_Fi_isDown zL_Fi_51 (c_Fi_isDown c q x l1 e1) rfl rfl rfl rfl (zself _) (zself _).symm 6 3 rfl rfl rfl d_Fi_restShort_2 ?_
  refine g_if_eq (pc := 5) (tgt := 12) hX d_Fi_restShort_5 (by decide) h (fun c2 h => ?_) (fun c2 h => ?_)
  · refine g_aload_n (pc := 12) hX d_Fi_restShort_12 rfl 0 rfl ?_
    refine g_iload_n (pc := 13) hX d_Fi_restShort_13 rfl 1 rfl ?_
    refine g_aload_n (pc := 14) hX d_Fi_restShort_14 rfl 0 rfl ?_
    refine gf_Fi_16 (pc := 15) (v := .ref ((q 7))) hX 6 rfl rfl d_Fi_restShort_15 ?_
    refine g_iload_n (pc := 18) hX d_Fi_restShort_18 rfl 1 rfl ?_
    refine g_iconst (pc := 19) hX d_Fi_restShort_19 zc_3 ?_
    obtain ⟨o3, e3, h⟩ := zbind h
    refine g_cvI (pc := 20)  (st := [.int l1, .ref ((q 6))]) (w' := (zwF c q x)) hX zk_Ta_get zs_Ta_get zL_Fi_36 (c_Ta_get c (q 7) (q 8) 13 104 x.2.1 l1 ((3 : Int32)) e3) rfl rfl rfl rfl (sp_Fi_Ta_7 c q x) (sp_Fi_Ta_7 c q x).symm 7 6 rfl rfl rfl d_Fi_restShort_20 ?_
    refine g_iconst (pc := 23) hX d_Fi_restShort_23 zc_1 ?_
    refine g_iadd (pc := 24) hX d_Fi_restShort_24 ?_
    refine g_iconst (pc := 25) hX d_Fi_restShort_25 zc_2 ?_
    refine g_idiv (pc := 26) hX d_Fi_restShort_26 (by decide) ?_
    obtain ⟨o4, e4, h⟩ := zbind h
    refine g_cvI (pc := 27) (w1 := []) (w2 := []) (st := []) (w' := (zwF c q o4.2)) hX zk_Fi_mend zs_Fi_mend zL_Fi_88 (c_Fi_mend c q x l1 (((o3 + (1 : Int32)) / (2 : Int32))) e4) rfl rfl rfl rfl (zself _) (zself _).symm 6 3 rfl rfl rfl d_Fi_restShort_27 ?_
    refine g_istore_n (pc := 30) (L' := [(2, .int o4.1), (0, .ref ((q 6))), (1, .int l1)]) hX d_Fi_restShort_30 rfl rfl rfl ?_
    refine g_aload_n (pc := 31) hX d_Fi_restShort_31 rfl 1 rfl ?_
    refine g_iload_n (pc := 32) hX d_Fi_restShort_32 rfl 2 rfl ?_
    refine g_iconst (pc := 33) hX d_Fi_restShort_33 zc_0 ?_
    obtain ⟨o5, e5, h⟩ := zbind h
    refine g_cvV (pc := 34) (w1 := []) (w2 := []) (st := []) (w' := (zwF c q o5)) hX zk_Fi_refill zs_Fi_refill zL_Fi_91 (c_Fi_refill c q o4.2 l1 ((0 : Int32)) e5) rfl rfl rfl rfl (zself _) (zself _).symm 6 3 rfl rfl rfl d_Fi_restShort_34 ?_
    refine g_iload_n (pc := 37) hX d_Fi_restShort_37 rfl 0 rfl ?_
    obtain rfl := Option.some.inj h
    exact g_iret (pc := 38) hX hR d_Fi_restShort_38
  · refine g_iconst (pc := 8) hX d_Fi_restShort_8 zc_0 ?_
    refine g_goto (pc := 9) (tgt := 30) hX d_Fi_restShort_9 (by decide) ?_
    refine g_istore_n (pc := 30) (L' := [(2, .int ((0 : Int32))), (0, .ref ((q 6))), (1, .int l1)]) hX d_Fi_restShort_30 rfl rfl rfl ?_
    refine g_aload_n (pc := 31) hX d_Fi_restShort_31 rfl 1 rfl ?_
    refine g_iload_n (pc := 32) hX d_Fi_restShort_32 rfl 2 rfl ?_
    refine g_iconst (pc := 33) hX d_Fi_restShort_33 zc_0 ?_
    obtain ⟨o6, e6, h⟩ := zbind h
    refine g_cvV (pc := 34) (w1 := []) (w2 := []) (st := []) (w' := (zwF c q o6)) hX zk_Fi_refill zs_Fi_refill zL_Fi_91 (c_Fi_refill c q x l1 ((0 : Int32)) e6) rfl rfl rfl rfl (zself _) (zself _).symm 6 3 rfl rfl rfl d_Fi_restShort_34 ?_
    refine g_iload_n (pc := 37) hX d_Fi_restShort_37 rfl 0 rfl ?_
    obtain rfl := Option.some.inj h
    exact g_iret (pc := 38) hX hR d_Fi_restShort_38)
theorem d_Fi_restLong_0 : decode zb_Fi_restLong 0 = .ok (.aload_n 0, 1) := by decide +kernel
theorem d_Fi_restLong_1 : decode zb_Fi_restLong 1 = .ok (.iload_n 1, 1) := by decide +kernel
theorem d_Fi_restLong_2 : decode zb_Fi_restLong 2 = .ok (.aload_n 0, 1) := by decide +kernel
theorem d_Fi_restLong_3 : decode zb_Fi_restLong 3 = .ok (.getfield 16, 3) := by decide +kernel
theorem d_Fi_restLong_6 : decode zb_Fi_restLong 6 = .ok (.iload_n 1, 1) := by decide +kernel
theorem d_Fi_restLong_7 : decode zb_Fi_restLong 7 = .ok (.iconst 3, 1) := by decide +kernel
theorem d_Fi_restLong_8 : decode zb_Fi_restLong 8 = .ok (.invokevirtual 36, 3) := by decide +kernel
theorem d_Fi_restLong_11 : decode zb_Fi_restLong 11 = .ok (.invokevirtual 88, 3) := by decide +kernel
theorem d_Fi_restLong_14 : decode zb_Fi_restLong 14 = .ok (.istore_n 2, 1) := by decide +kernel
theorem d_Fi_restLong_15 : decode zb_Fi_restLong 15 = .ok (.iconst 0, 1) := by decide +kernel
theorem d_Fi_restLong_16 : decode zb_Fi_restLong 16 = .ok (.istore_n 3, 1) := by decide +kernel
theorem d_Fi_restLong_17 : decode zb_Fi_restLong 17 = .ok (.iload_n 3, 1) := by decide +kernel
theorem d_Fi_restLong_18 : decode zb_Fi_restLong 18 = .ok (.iconst 3, 1) := by decide +kernel
theorem d_Fi_restLong_19 : decode zb_Fi_restLong 19 = .ok (.if_icmp .ge 15, 3) := by decide +kernel
theorem d_Fi_restLong_22 : decode zb_Fi_restLong 22 = .ok (.aload_n 0, 1) := by decide +kernel
theorem d_Fi_restLong_23 : decode zb_Fi_restLong 23 = .ok (.iload_n 1, 1) := by decide +kernel
theorem d_Fi_restLong_24 : decode zb_Fi_restLong 24 = .ok (.iload_n 3, 1) := by decide +kernel
theorem d_Fi_restLong_25 : decode zb_Fi_restLong 25 = .ok (.invokevirtual 91, 3) := by decide +kernel
theorem d_Fi_restLong_28 : decode zb_Fi_restLong 28 = .ok (.iinc 3 1, 3) := by decide +kernel
theorem d_Fi_restLong_31 : decode zb_Fi_restLong 31 = .ok (.goto (-14), 3) := by decide +kernel
theorem d_Fi_restLong_34 : decode zb_Fi_restLong 34 = .ok (.iload_n 2, 1) := by decide +kernel
theorem d_Fi_restLong_35 : decode zb_Fi_restLong 35 = .ok (.ireturn, 1) := by decide +kernel
def k_Fi_restLong_17 (l1 : Int32) : Nat → Int32 → Int32 → zsF → Option (Int32 × zsF)
  | 0, _, _, _ => none
  | fu + 1, l2, l3, x => (if l3 < (3 : Int32) then (k_Fi_refill x l1 l3).bind fun o4 => k_Fi_restLong_17 l1 fu l2 ((l3 + (1 : Int32))) o4 else some (l2, x))
set_option maxRecDepth 20000 in
theorem w_Fi_restLong_17 {X : zX} {c : zY} {q : Nat → Nat} {l1 : Int32} {out : Int32 × zsF} (hX : Ok X zr_Fi zb_Fi_restLong 4 2 c) (hR : Rt X (some .int) (some (.int out.1)) (zwF c q out.2)) : ∀ (fu : Nat) (l2 : Int32) (l3 : Int32) (x : zsF), k_Fi_restLong_17 l1 fu l2 l3 x = some out → Go X (zwF c q x) [(0, .ref ((q 6))), (1, .int l1), (2, .int l2), (3, .int l3)] 17 [] := by
  intro fu
  induction fu with
  | zero => intro l2 l3 x h; rw [k_Fi_restLong_17] at h; cases h
  | succ fu ih =>
    intro l2 l3 x h
    rw [k_Fi_restLong_17] at h
    refine g_iload_n (pc := 17) hX d_Fi_restLong_17 rfl 3 rfl ?_
    refine g_iconst (pc := 18) hX d_Fi_restLong_18 zc_3 ?_
    refine g_icmp_ge (pc := 19) (tgt := 34) hX d_Fi_restLong_19 (by decide) h (fun c3 h => ?_) (fun c3 h => ?_)
    · refine g_iload_n (pc := 34) hX d_Fi_restLong_34 rfl 2 rfl ?_
      obtain rfl := Option.some.inj h
      exact g_iret (pc := 35) hX hR d_Fi_restLong_35
    · refine g_aload_n (pc := 22) hX d_Fi_restLong_22 rfl 0 rfl ?_
      refine g_iload_n (pc := 23) hX d_Fi_restLong_23 rfl 1 rfl ?_
      refine g_iload_n (pc := 24) hX d_Fi_restLong_24 rfl 3 rfl ?_
      obtain ⟨o4, e4, h⟩ := zbind h
      refine g_cvV (pc := 25) (w1 := []) (w2 := []) (st := []) (w' := (zwF c q o4)) hX zk_Fi_refill zs_Fi_refill zL_Fi_91 (c_Fi_refill c q x l1 l3 e4) rfl rfl rfl rfl (zself _) (zself _).symm 6 3 rfl rfl rfl d_Fi_restLong_25 ?_
      refine g_iinc (pc := 28) (q := 3) (L' := [(3, .int ((l3 + (1 : Int32)))), (0, .ref ((q 6))), (1, .int l1), (2, .int l2)]) hX d_Fi_restLong_28 rfl zc_1 rfl rfl ?_
      refine g_goto (pc := 31) (tgt := 17) hX d_Fi_restLong_31 (by decide) ?_
      refine g_ls (L' := [(0, .ref ((q 6))), (1, .int l1), (2, .int l2), (3, .int ((l3 + (1 : Int32))))]) [1, 2, 3, 0] rfl ?_
      exact ih _ _ _ h
def k_Fi_restLong (x : zsF) (l1 : Int32) : Option (Int32 × zsF) := (k_Ta_get 13 104 x.2.1 l1 ((3 : Int32))).bind fun o1 => (k_Fi_mend x l1 o1).bind fun o2 => k_Fi_restLong_17 l1 zFu o2.1 ((0 : Int32)) o2.2
set_option maxRecDepth 20000 in
theorem c_Fi_restLong (c : zY) (q : Nat → Nat) (x : zsF) (l1 : Int32) {out : Int32 × zsF} (h : k_Fi_restLong x l1 = some out) : KM zy_Fi_restLong zb_Fi_restLong 4 (some .int) 2 c [.ref ((q 6)), .int l1] (zwF c q x) (zwF c q out.2) (some (.int out.1)) := zK_of zp_Fi rfl (Nat.le_of_ble_eq_true rfl) (zq_Fi c q _ _) (fun X hX hR => by
  show Go X (zwF c q x) [(0, .ref ((q 6))), (1, .int l1)] 0 []
  rw [k_Fi_restLong] at h
  refine g_aload_n (pc := 0) hX d_Fi_restLong_0 rfl 0 rfl ?_
  refine g_iload_n (pc := 1) hX d_Fi_restLong_1 rfl 1 rfl ?_
  refine g_aload_n (pc := 2) hX d_Fi_restLong_2 rfl 0 rfl ?_
  refine gf_Fi_16 (pc := 3) (v := .ref ((q 7))) hX 6 rfl rfl d_Fi_restLong_3 ?_
  refine g_iload_n (pc := 6) hX d_Fi_restLong_6 rfl 1 rfl ?_
  refine g_iconst (pc := 7) hX d_Fi_restLong_7 zc_3 ?_
  obtain ⟨o1, e1, h⟩ := zbind h
  refine g_cvI (pc := 8)  (st := [.int l1, .ref ((q 6))]) (w' := (zwF c q x)) hX zk_Ta_get zs_Ta_get zL_Fi_36 (c_Ta_get c (q 7) (q 8) 13 104 x.2.1 l1 ((3 : Int32)) e1) rfl rfl rfl rfl (sp_Fi_Ta_7 c q x) (sp_Fi_Ta_7 c q x).symm 7 6 rfl rfl rfl d_Fi_restLong_8 ?_
  obtain ⟨o2, e2, h⟩ := zbind h
  refine g_cvI (pc := 11) (w1 := []) (w2 := []) (st := []) (w' := (zwF c q o2.2)) hX zk_Fi_mend zs_Fi_mend zL_Fi_88 (c_Fi_mend c q x l1 o1 e2) rfl rfl rfl rfl (zself _) (zself _).symm 6 3 rfl rfl rfl d_Fi_restLong_11 ?_
  refine g_istore_n (pc := 14) (L' := [(2, .int o2.1), (0, .ref ((q 6))), (1, .int l1)]) hX d_Fi_restLong_14 rfl rfl rfl ?_
  refine g_iconst (pc := 15) hX d_Fi_restLong_15 zc_0 ?_
  refine g_istore_n (pc := 16) (L' := [(3, .int ((0 : Int32))), (2, .int o2.1), (0, .ref ((q 6))), (1, .int l1)]) hX d_Fi_restLong_16 rfl rfl rfl ?_
  refine g_ls (L' := [(0, .ref ((q 6))), (1, .int l1), (2, .int o2.1), (3, .int ((0 : Int32)))]) [2, 3, 1, 0] rfl ?_
  exact w_Fi_restLong_17 hX hR _ _ _ _ h)
