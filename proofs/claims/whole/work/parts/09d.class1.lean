theorem d_EL_cast_0 : decode zb_EL_cast 0 = .ok (.aload_n 0, 1) := by decide +kernel
theorem d_EL_cast_1 : decode zb_EL_cast 1 = .ok (.getfield 10, 3) := by decide +kernel
theorem d_EL_cast_4 : decode zb_EL_cast 4 = .ok (.getfield 179, 3) := by decide +kernel
theorem d_EL_cast_7 : decode zb_EL_cast 7 = .ok (.iload_n 1, 1) := by decide +kernel
theorem d_EL_cast_8 : decode zb_EL_cast 8 = .ok (.invokevirtual 182, 3) := by decide +kernel
theorem d_EL_cast_11 : decode zb_EL_cast 11 = .ok (.ifCond .eq 17, 3) := by decide +kernel
theorem d_EL_cast_14 : decode zb_EL_cast 14 = .ok (.iload_n 2, 1) := by decide +kernel
theorem d_EL_cast_15 : decode zb_EL_cast 15 = .ok (.invokestatic 48, 3) := by decide +kernel
theorem d_EL_cast_18 : decode zb_EL_cast 18 = .ok (.ifCond .eq 10, 3) := by decide +kernel
theorem d_EL_cast_21 : decode zb_EL_cast 21 = .ok (.iload_n 3, 1) := by decide +kernel
theorem d_EL_cast_22 : decode zb_EL_cast 22 = .ok (.invokestatic 197, 3) := by decide +kernel
theorem d_EL_cast_25 : decode zb_EL_cast 25 = .ok (.ifCond .ne 5, 3) := by decide +kernel
theorem d_EL_cast_28 : decode zb_EL_cast 28 = .ok (.iconst (-1), 1) := by decide +kernel
theorem d_EL_cast_29 : decode zb_EL_cast 29 = .ok (.ireturn, 1) := by decide +kernel
theorem d_EL_cast_30 : decode zb_EL_cast 30 = .ok (.aload_n 0, 1) := by decide +kernel
theorem d_EL_cast_31 : decode zb_EL_cast 31 = .ok (.iload_n 1, 1) := by decide +kernel
theorem d_EL_cast_32 : decode zb_EL_cast 32 = .ok (.invokevirtual 200, 3) := by decide +kernel
theorem d_EL_cast_35 : decode zb_EL_cast 35 = .ok (.istore 4, 2) := by decide +kernel
theorem d_EL_cast_37 : decode zb_EL_cast 37 = .ok (.iload 4, 2) := by decide +kernel
theorem d_EL_cast_39 : decode zb_EL_cast 39 = .ok (.ifCond .eq 10, 3) := by decide +kernel
theorem d_EL_cast_42 : decode zb_EL_cast 42 = .ok (.aload_n 0, 1) := by decide +kernel
theorem d_EL_cast_43 : decode zb_EL_cast 43 = .ok (.iload 4, 2) := by decide +kernel
theorem d_EL_cast_45 : decode zb_EL_cast 45 = .ok (.invokevirtual 55, 3) := by decide +kernel
theorem d_EL_cast_48 : decode zb_EL_cast 48 = .ok (.ireturn, 1) := by decide +kernel
theorem d_EL_cast_49 : decode zb_EL_cast 49 = .ok (.aload_n 0, 1) := by decide +kernel
theorem d_EL_cast_50 : decode zb_EL_cast 50 = .ok (.getfield 22, 3) := by decide +kernel
theorem d_EL_cast_53 : decode zb_EL_cast 53 = .ok (.aload_n 0, 1) := by decide +kernel
theorem d_EL_cast_54 : decode zb_EL_cast 54 = .ok (.getfield 10, 3) := by decide +kernel
theorem d_EL_cast_57 : decode zb_EL_cast 57 = .ok (.invokevirtual 69, 3) := by decide +kernel
theorem d_EL_cast_60 : decode zb_EL_cast 60 = .ok (.aload_n 0, 1) := by decide +kernel
theorem d_EL_cast_61 : decode zb_EL_cast 61 = .ok (.getfield 10, 3) := by decide +kernel
theorem d_EL_cast_64 : decode zb_EL_cast 64 = .ok (.getfield 97, 3) := by decide +kernel
theorem d_EL_cast_67 : decode zb_EL_cast 67 = .ok (.invokevirtual 120, 3) := by decide +kernel
theorem d_EL_cast_70 : decode zb_EL_cast 70 = .ok (.istore 5, 2) := by decide +kernel
theorem d_EL_cast_72 : decode zb_EL_cast 72 = .ok (.aload_n 0, 1) := by decide +kernel
theorem d_EL_cast_73 : decode zb_EL_cast 73 = .ok (.getfield 10, 3) := by decide +kernel
theorem d_EL_cast_76 : decode zb_EL_cast 76 = .ok (.getfield 179, 3) := by decide +kernel
theorem d_EL_cast_79 : decode zb_EL_cast 79 = .ok (.iload_n 1, 1) := by decide +kernel
theorem d_EL_cast_80 : decode zb_EL_cast 80 = .ok (.iconst 0, 1) := by decide +kernel
theorem d_EL_cast_81 : decode zb_EL_cast 81 = .ok (.invokevirtual 84, 3) := by decide +kernel
theorem d_EL_cast_84 : decode zb_EL_cast 84 = .ok (.iconst 2, 1) := by decide +kernel
theorem d_EL_cast_85 : decode zb_EL_cast 85 = .ok (.if_icmp .ge 7, 3) := by decide +kernel
theorem d_EL_cast_88 : decode zb_EL_cast 88 = .ok (.iconst 1, 1) := by decide +kernel
theorem d_EL_cast_89 : decode zb_EL_cast 89 = .ok (.goto 4, 3) := by decide +kernel
theorem d_EL_cast_92 : decode zb_EL_cast 92 = .ok (.iconst 0, 1) := by decide +kernel
theorem d_EL_cast_93 : decode zb_EL_cast 93 = .ok (.istore 6, 2) := by decide +kernel
theorem d_EL_cast_95 : decode zb_EL_cast 95 = .ok (.iload 6, 2) := by decide +kernel
theorem d_EL_cast_97 : decode zb_EL_cast 97 = .ok (.ifCond .eq 7, 3) := by decide +kernel
theorem d_EL_cast_100 : decode zb_EL_cast 100 = .ok (.iload_n 2, 1) := by decide +kernel
theorem d_EL_cast_101 : decode zb_EL_cast 101 = .ok (.goto 16, 3) := by decide +kernel
theorem d_EL_cast_104 : decode zb_EL_cast 104 = .ok (.aload_n 0, 1) := by decide +kernel
theorem d_EL_cast_105 : decode zb_EL_cast 105 = .ok (.getfield 10, 3) := by decide +kernel
theorem d_EL_cast_108 : decode zb_EL_cast 108 = .ok (.getfield 59, 3) := by decide +kernel
theorem d_EL_cast_111 : decode zb_EL_cast 111 = .ok (.iload 5, 2) := by decide +kernel
theorem d_EL_cast_113 : decode zb_EL_cast 113 = .ok (.iconst 1, 1) := by decide +kernel
theorem d_EL_cast_114 : decode zb_EL_cast 114 = .ok (.invokevirtual 107, 3) := by decide +kernel
theorem d_EL_cast_117 : decode zb_EL_cast 117 = .ok (.istore 7, 2) := by decide +kernel
theorem d_EL_cast_119 : decode zb_EL_cast 119 = .ok (.aload_n 0, 1) := by decide +kernel
theorem d_EL_cast_120 : decode zb_EL_cast 120 = .ok (.iload_n 1, 1) := by decide +kernel
theorem d_EL_cast_121 : decode zb_EL_cast 121 = .ok (.iload 7, 2) := by decide +kernel
theorem d_EL_cast_123 : decode zb_EL_cast 123 = .ok (.iload_n 3, 1) := by decide +kernel
theorem d_EL_cast_124 : decode zb_EL_cast 124 = .ok (.invokevirtual 203, 3) := by decide +kernel
theorem d_EL_cast_127 : decode zb_EL_cast 127 = .ok (.istore 8, 2) := by decide +kernel
theorem d_EL_cast_129 : decode zb_EL_cast 129 = .ok (.aload_n 0, 1) := by decide +kernel
theorem d_EL_cast_130 : decode zb_EL_cast 130 = .ok (.getfield 10, 3) := by decide +kernel
theorem d_EL_cast_133 : decode zb_EL_cast 133 = .ok (.getfield 97, 3) := by decide +kernel
theorem d_EL_cast_136 : decode zb_EL_cast 136 = .ok (.bipush 10, 2) := by decide +kernel
theorem d_EL_cast_138 : decode zb_EL_cast 138 = .ok (.iload_n 1, 1) := by decide +kernel
theorem d_EL_cast_139 : decode zb_EL_cast 139 = .ok (.iadd, 1) := by decide +kernel
theorem d_EL_cast_140 : decode zb_EL_cast 140 = .ok (.invokevirtual 161, 3) := by decide +kernel
theorem d_EL_cast_143 : decode zb_EL_cast 143 = .ok (.aload_n 0, 1) := by decide +kernel
theorem d_EL_cast_144 : decode zb_EL_cast 144 = .ok (.getfield 10, 3) := by decide +kernel
theorem d_EL_cast_147 : decode zb_EL_cast 147 = .ok (.getfield 59, 3) := by decide +kernel
theorem d_EL_cast_150 : decode zb_EL_cast 150 = .ok (.iload 5, 2) := by decide +kernel
theorem d_EL_cast_152 : decode zb_EL_cast 152 = .ok (.aload_n 0, 1) := by decide +kernel
theorem d_EL_cast_153 : decode zb_EL_cast 153 = .ok (.getfield 10, 3) := by decide +kernel
theorem d_EL_cast_156 : decode zb_EL_cast 156 = .ok (.getfield 179, 3) := by decide +kernel
theorem d_EL_cast_159 : decode zb_EL_cast 159 = .ok (.iload_n 1, 1) := by decide +kernel
theorem d_EL_cast_160 : decode zb_EL_cast 160 = .ok (.iconst 3, 1) := by decide +kernel
theorem d_EL_cast_161 : decode zb_EL_cast 161 = .ok (.invokevirtual 84, 3) := by decide +kernel
theorem d_EL_cast_164 : decode zb_EL_cast 164 = .ok (.aload_n 0, 1) := by decide +kernel
theorem d_EL_cast_165 : decode zb_EL_cast 165 = .ok (.getfield 10, 3) := by decide +kernel
theorem d_EL_cast_168 : decode zb_EL_cast 168 = .ok (.getfield 179, 3) := by decide +kernel
theorem d_EL_cast_171 : decode zb_EL_cast 171 = .ok (.iload_n 1, 1) := by decide +kernel
theorem d_EL_cast_172 : decode zb_EL_cast 172 = .ok (.iconst 4, 1) := by decide +kernel
theorem d_EL_cast_173 : decode zb_EL_cast 173 = .ok (.invokevirtual 84, 3) := by decide +kernel
theorem d_EL_cast_176 : decode zb_EL_cast 176 = .ok (.invokevirtual 207, 3) := by decide +kernel
theorem d_EL_cast_179 : decode zb_EL_cast 179 = .ok (.aload_n 0, 1) := by decide +kernel
theorem d_EL_cast_180 : decode zb_EL_cast 180 = .ok (.getfield 10, 3) := by decide +kernel
theorem d_EL_cast_183 : decode zb_EL_cast 183 = .ok (.getfield 179, 3) := by decide +kernel
theorem d_EL_cast_186 : decode zb_EL_cast 186 = .ok (.iload_n 1, 1) := by decide +kernel
theorem d_EL_cast_187 : decode zb_EL_cast 187 = .ok (.iconst 2, 1) := by decide +kernel
theorem d_EL_cast_188 : decode zb_EL_cast 188 = .ok (.invokevirtual 84, 3) := by decide +kernel
theorem d_EL_cast_191 : decode zb_EL_cast 191 = .ok (.istore 9, 2) := by decide +kernel
theorem d_EL_cast_193 : decode zb_EL_cast 193 = .ok (.iconst 0, 1) := by decide +kernel
theorem d_EL_cast_194 : decode zb_EL_cast 194 = .ok (.istore 10, 2) := by decide +kernel
theorem d_EL_cast_196 : decode zb_EL_cast 196 = .ok (.iload 10, 2) := by decide +kernel
theorem d_EL_cast_198 : decode zb_EL_cast 198 = .ok (.iload 9, 2) := by decide +kernel
theorem d_EL_cast_200 : decode zb_EL_cast 200 = .ok (.if_icmp .ge 19, 3) := by decide +kernel
theorem d_EL_cast_203 : decode zb_EL_cast 203 = .ok (.aload_n 0, 1) := by decide +kernel
theorem d_EL_cast_204 : decode zb_EL_cast 204 = .ok (.iload_n 1, 1) := by decide +kernel
theorem d_EL_cast_205 : decode zb_EL_cast 205 = .ok (.iload 10, 2) := by decide +kernel
theorem d_EL_cast_207 : decode zb_EL_cast 207 = .ok (.iload 7, 2) := by decide +kernel
theorem d_EL_cast_209 : decode zb_EL_cast 209 = .ok (.iload_n 3, 1) := by decide +kernel
theorem d_EL_cast_210 : decode zb_EL_cast 210 = .ok (.invokevirtual 210, 3) := by decide +kernel
theorem d_EL_cast_213 : decode zb_EL_cast 213 = .ok (.iinc 10 1, 3) := by decide +kernel
theorem d_EL_cast_216 : decode zb_EL_cast 216 = .ok (.goto (-20), 3) := by decide +kernel
theorem d_EL_cast_219 : decode zb_EL_cast 219 = .ok (.iload 8, 2) := by decide +kernel
theorem d_EL_cast_221 : decode zb_EL_cast 221 = .ok (.ireturn, 1) := by decide +kernel
def k_EL_cast_196 (l1 : Int32) (l2 : Int32) (l3 : Int32) : Nat → Int32 → Int32 → Int32 → Int32 → zsX → Option (Int32 × zsX)
  | 0, _, _, _, _, _ => none
  | fu + 1, l7, l8, l9, l10, x => (if l10 < l9 then (k_EL_spread x l1 l10 l7 l3).bind fun o22 => k_EL_cast_196 l1 l2 l3 fu l7 l8 l9 ((l10 + (1 : Int32))) o22 else some (l8, x))
set_option maxRecDepth 20000 in
theorem w_EL_cast_196 {X : zX} {c : zY} {q : Nat → Nat} {l1 : Int32} {l2 : Int32} {l3 : Int32} {out : Int32 × zsX} (hX : Ok X zr_EL zb_EL_cast 11 7 c) (hR : Rt X (some .int) (some (.int out.1)) (zwX c q out.2)) : ∀ (fu : Nat) (l7 : Int32) (l8 : Int32) (l9 : Int32) (l10 : Int32) (x : zsX), k_EL_cast_196 l1 l2 l3 fu l7 l8 l9 l10 x = some out → Go X (zwX c q x) [(0, .ref ((q 17))), (1, .int l1), (3, .int l3), (7, .int l7), (8, .int l8), (9, .int l9), (10, .int l10)] 196 [] := by
  intro fu
  induction fu with
  | zero => intro l7 l8 l9 l10 x h; rw [k_EL_cast_196] at h; cases h
  | succ fu ih =>
    intro l7 l8 l9 l10 x h
    rw [k_EL_cast_196] at h
    refine g_iload (pc := 196) hX d_EL_cast_196 6 rfl ?_
    refine g_iload (pc := 198) hX d_EL_cast_198 5 rfl ?_
    refine g_icmp_ge (pc := 200) (tgt := 219) hX d_EL_cast_200 (by decide) h (fun c21 h => ?_) (fun c21 h => ?_)
    · refine g_iload (pc := 219) hX d_EL_cast_219 4 rfl ?_
      obtain rfl := Option.some.inj h
      exact g_iret (pc := 221) hX hR d_EL_cast_221
    · refine g_aload_n (pc := 203) hX d_EL_cast_203 rfl 0 rfl ?_
      refine g_iload_n (pc := 204) hX d_EL_cast_204 rfl 1 rfl ?_
      refine g_iload (pc := 205) hX d_EL_cast_205 6 rfl ?_
      refine g_iload (pc := 207) hX d_EL_cast_207 3 rfl ?_
      refine g_iload_n (pc := 209) hX d_EL_cast_209 rfl 2 rfl ?_
      obtain ⟨o22, e22, h⟩ := zbind h
      refine g_cvV (pc := 210) (w1 := []) (w2 := []) (st := []) (w' := (zwX c q o22)) hX zk_EL_spread zs_EL_spread zL_EL_210 (c_EL_spread c q x l1 l10 l7 l3 e22) rfl rfl rfl rfl (zself _) (zself _).symm 3 9 rfl rfl rfl d_EL_cast_210 ?_
      refine g_iinc (pc := 213) (q := 6) (L' := [(10, .int ((l10 + (1 : Int32)))), (0, .ref ((q 17))), (1, .int l1), (3, .int l3), (7, .int l7), (8, .int l8), (9, .int l9)]) hX d_EL_cast_213 rfl zc_1 rfl rfl ?_
      refine g_goto (pc := 216) (tgt := 196) hX d_EL_cast_216 (by decide) ?_
      refine g_ls (L' := [(0, .ref ((q 17))), (1, .int l1), (3, .int l3), (7, .int l7), (8, .int l8), (9, .int l9), (10, .int ((l10 + (1 : Int32))))]) [1, 2, 3, 4, 5, 6, 0] rfl ?_
      exact ih _ _ _ _ _ h
def k_EL_cast_117 (l1 : Int32) (l2 : Int32) (l3 : Int32) (l5 : Int32) (s0 : Int32) (x : zsX) : Option (Int32 × zsX) := (k_EL_countMet x l1 s0 l3).bind fun o15 => (k_En_act x.2.2.2.2.1.1 (((10 : Int32) + l1))).bind fun o16 => (k_Ta_get 25 100 x.2.2.2.2.1.2.2.1 l1 ((3 : Int32))).bind fun o17 => (k_Ta_get 25 100 x.2.2.2.2.1.2.2.1 l1 ((4 : Int32))).bind fun o18 => (k_Fi_spend o16.1 l5 o17 o18).bind fun o19 => (k_Ta_get 25 100 x.2.2.2.2.1.2.2.1 l1 ((2 : Int32))).bind fun o20 => k_EL_cast_196 l1 l2 l3 zFu s0 o15 o20 ((0 : Int32)) ((x.1, x.2.1, x.2.2.1, x.2.2.2.1, ((o19, o16.2.1, o16.2.2), x.2.2.2.2.1.2.1, x.2.2.2.2.1.2.2.1, x.2.2.2.2.1.2.2.2), x.2.2.2.2.2.1, x.2.2.2.2.2.2))
set_option maxRecDepth 20000 in
theorem w_EL_cast_117 {X : zX} {c : zY} {q : Nat → Nat} {l1 : Int32} {l2 : Int32} {l3 : Int32} {out : Int32 × zsX} (hX : Ok X zr_EL zb_EL_cast 11 7 c) (hR : Rt X (some .int) (some (.int out.1)) (zwX c q out.2)) : ∀ (l5 : Int32) (s0 : Int32) (x : zsX), k_EL_cast_117 l1 l2 l3 l5 s0 x = some out → Go X (zwX c q x) [(0, .ref ((q 17))), (1, .int l1), (3, .int l3), (5, .int l5)] 117 [.int s0] := by
  intro l5 s0 x h
  rw [k_EL_cast_117] at h
  refine g_istore (pc := 117) (L' := [(7, .int s0), (0, .ref ((q 17))), (1, .int l1), (3, .int l3), (5, .int l5)]) hX d_EL_cast_117 rfl rfl ?_
  refine g_aload_n (pc := 119) hX d_EL_cast_119 rfl 1 rfl ?_
  refine g_iload_n (pc := 120) hX d_EL_cast_120 rfl 2 rfl ?_
  refine g_iload (pc := 121) hX d_EL_cast_121 0 rfl ?_
  refine g_iload_n (pc := 123) hX d_EL_cast_123 rfl 3 rfl ?_
  obtain ⟨o15, e15, h⟩ := zbind h
  refine g_cvI (pc := 124) (w1 := []) (w2 := []) (st := []) (w' := (zwX c q x)) hX zk_EL_countMet zs_EL_countMet zL_EL_203 (c_EL_countMet c q x l1 s0 l3 e15) rfl rfl rfl rfl (zself _) (zself _).symm 3 9 rfl rfl rfl d_EL_cast_124 ?_
  refine g_istore (pc := 127) (L' := [(8, .int o15), (7, .int s0), (0, .ref ((q 17))), (1, .int l1), (3, .int l3), (5, .int l5)]) hX d_EL_cast_127 rfl rfl ?_
  refine g_aload_n (pc := 129) hX d_EL_cast_129 rfl 2 rfl ?_
  refine gf_EL_10 (pc := 130) (v := .ref ((q 12))) hX 3 rfl rfl d_EL_cast_130 ?_
  refine gf_EL_97 (pc := 133) (v := .ref ((q 9))) hX 19 rfl rfl d_EL_cast_133 ?_
  refine g_bipush (pc := 136) hX d_EL_cast_136 ze_10 ?_
  refine g_iload_n (pc := 138) hX d_EL_cast_138 rfl 3 rfl ?_
  refine g_iadd (pc := 139) hX d_EL_cast_139 ?_
  obtain ⟨o16, e16, h⟩ := zbind h
  refine g_cvV (pc := 140)  (st := []) (w' := (zwX c q ((x.1, x.2.1, x.2.2.1, x.2.2.2.1, (o16, x.2.2.2.2.1.2.1, x.2.2.2.2.1.2.2.1, x.2.2.2.2.1.2.2.2), x.2.2.2.2.2.1, x.2.2.2.2.2.2)))) hX zk_En_act zs_En_act zL_EL_161 (c_En_act c q x.2.2.2.2.1.1 (((10 : Int32) + l1)) e16) rfl rfl rfl rfl (sp_EL_En_7 c q x) (sq_EL_En_7 c q x o16) 16 2 rfl rfl rfl d_EL_cast_140 ?_
  refine g_aload_n (pc := 143) hX d_EL_cast_143 rfl 2 rfl ?_
  refine gf_EL_10 (pc := 144) (v := .ref ((q 12))) hX 3 rfl rfl d_EL_cast_144 ?_
  refine gf_EL_59 (pc := 147) (v := .ref ((q 6))) hX 19 rfl rfl d_EL_cast_147 ?_
  refine g_iload (pc := 150) hX d_EL_cast_150 5 rfl ?_
  refine g_aload_n (pc := 152) hX d_EL_cast_152 rfl 2 rfl ?_
  refine gf_EL_10 (pc := 153) (v := .ref ((q 12))) hX 3 rfl rfl d_EL_cast_153 ?_
  refine gf_EL_179 (pc := 156) (v := .ref ((q 15))) hX 19 rfl rfl d_EL_cast_156 ?_
  refine g_iload_n (pc := 159) hX d_EL_cast_159 rfl 3 rfl ?_
  refine g_iconst (pc := 160) hX d_EL_cast_160 zc_3 ?_
  obtain ⟨o17, e17, h⟩ := zbind h
  refine g_cvI (pc := 161)  (st := [.int l5, .ref ((q 6))]) (w' := (zwX c q ((x.1, x.2.1, x.2.2.1, x.2.2.2.1, (o16, x.2.2.2.2.1.2.1, x.2.2.2.2.1.2.2.1, x.2.2.2.2.1.2.2.2), x.2.2.2.2.2.1, x.2.2.2.2.2.2)))) hX zk_Ta_get zs_Ta_get zL_EL_84 (c_Ta_get c (q 15) (q 16) 25 100 x.2.2.2.2.1.2.2.1 l1 ((3 : Int32)) e17) rfl rfl rfl rfl (sp_EL_Ta_22 c q ((x.1, x.2.1, x.2.2.1, x.2.2.2.1, (o16, x.2.2.2.2.1.2.1, x.2.2.2.2.1.2.2.1, x.2.2.2.2.1.2.2.2), x.2.2.2.2.2.1, x.2.2.2.2.2.2))) (sp_EL_Ta_22 c q ((x.1, x.2.1, x.2.2.1, x.2.2.2.1, (o16, x.2.2.2.2.1.2.1, x.2.2.2.2.1.2.2.1, x.2.2.2.2.1.2.2.2), x.2.2.2.2.2.1, x.2.2.2.2.2.2))).symm 22 6 rfl rfl rfl d_EL_cast_161 ?_
  refine g_aload_n (pc := 164) hX d_EL_cast_164 rfl 2 rfl ?_
  refine gf_EL_10 (pc := 165) (v := .ref ((q 12))) hX 3 rfl rfl d_EL_cast_165 ?_
  refine gf_EL_179 (pc := 168) (v := .ref ((q 15))) hX 19 rfl rfl d_EL_cast_168 ?_
  refine g_iload_n (pc := 171) hX d_EL_cast_171 rfl 3 rfl ?_
  refine g_iconst (pc := 172) hX d_EL_cast_172 zc_4 ?_
  obtain ⟨o18, e18, h⟩ := zbind h
  refine g_cvI (pc := 173)  (st := [.int o17, .int l5, .ref ((q 6))]) (w' := (zwX c q ((x.1, x.2.1, x.2.2.1, x.2.2.2.1, (o16, x.2.2.2.2.1.2.1, x.2.2.2.2.1.2.2.1, x.2.2.2.2.1.2.2.2), x.2.2.2.2.2.1, x.2.2.2.2.2.2)))) hX zk_Ta_get zs_Ta_get zL_EL_84 (c_Ta_get c (q 15) (q 16) 25 100 x.2.2.2.2.1.2.2.1 l1 ((4 : Int32)) e18) rfl rfl rfl rfl (sp_EL_Ta_22 c q ((x.1, x.2.1, x.2.2.1, x.2.2.2.1, (o16, x.2.2.2.2.1.2.1, x.2.2.2.2.1.2.2.1, x.2.2.2.2.1.2.2.2), x.2.2.2.2.2.1, x.2.2.2.2.2.2))) (sp_EL_Ta_22 c q ((x.1, x.2.1, x.2.2.1, x.2.2.2.1, (o16, x.2.2.2.2.1.2.1, x.2.2.2.2.1.2.2.1, x.2.2.2.2.1.2.2.2), x.2.2.2.2.2.1, x.2.2.2.2.2.2))).symm 22 6 rfl rfl rfl d_EL_cast_173 ?_
  obtain ⟨o19, e19, h⟩ := zbind h
  refine g_cvV (pc := 176)  (st := []) (w' := (zwX c q ((x.1, x.2.1, x.2.2.1, x.2.2.2.1, ((o19, o16.2.1, o16.2.2), x.2.2.2.2.1.2.1, x.2.2.2.2.1.2.2.1, x.2.2.2.2.1.2.2.2), x.2.2.2.2.2.1, x.2.2.2.2.2.2)))) hX zk_Fi_spend zs_Fi_spend zL_EL_207 (c_Fi_spend c q o16.1 l5 o17 o18 e19) rfl rfl rfl rfl (sp_EL_Fi_7 c q ((x.1, x.2.1, x.2.2.1, x.2.2.2.1, (o16, x.2.2.2.2.1.2.1, x.2.2.2.2.1.2.2.1, x.2.2.2.2.1.2.2.2), x.2.2.2.2.2.1, x.2.2.2.2.2.2))) (sq_EL_Fi_7 c q ((x.1, x.2.1, x.2.2.1, x.2.2.2.1, (o16, x.2.2.2.2.1.2.1, x.2.2.2.2.1.2.2.1, x.2.2.2.2.1.2.2.2), x.2.2.2.2.2.1, x.2.2.2.2.2.2)) o19) 13 3 rfl rfl rfl d_EL_cast_176 ?_
  refine g_aload_n (pc := 179) hX d_EL_cast_179 rfl 2 rfl ?_
  refine gf_EL_10 (pc := 180) (v := .ref ((q 12))) hX 3 rfl rfl d_EL_cast_180 ?_
  refine gf_EL_179 (pc := 183) (v := .ref ((q 15))) hX 19 rfl rfl d_EL_cast_183 ?_
  refine g_iload_n (pc := 186) hX d_EL_cast_186 rfl 3 rfl ?_
  refine g_iconst (pc := 187) hX d_EL_cast_187 zc_2 ?_
  obtain ⟨o20, e20, h⟩ := zbind h
  refine g_cvI (pc := 188)  (st := []) (w' := (zwX c q ((x.1, x.2.1, x.2.2.1, x.2.2.2.1, ((o19, o16.2.1, o16.2.2), x.2.2.2.2.1.2.1, x.2.2.2.2.1.2.2.1, x.2.2.2.2.1.2.2.2), x.2.2.2.2.2.1, x.2.2.2.2.2.2)))) hX zk_Ta_get zs_Ta_get zL_EL_84 (c_Ta_get c (q 15) (q 16) 25 100 x.2.2.2.2.1.2.2.1 l1 ((2 : Int32)) e20) rfl rfl rfl rfl (sp_EL_Ta_22 c q ((x.1, x.2.1, x.2.2.1, x.2.2.2.1, ((o19, o16.2.1, o16.2.2), x.2.2.2.2.1.2.1, x.2.2.2.2.1.2.2.1, x.2.2.2.2.1.2.2.2), x.2.2.2.2.2.1, x.2.2.2.2.2.2))) (sp_EL_Ta_22 c q ((x.1, x.2.1, x.2.2.1, x.2.2.2.1, ((o19, o16.2.1, o16.2.2), x.2.2.2.2.1.2.1, x.2.2.2.2.1.2.2.1, x.2.2.2.2.1.2.2.2), x.2.2.2.2.2.1, x.2.2.2.2.2.2))).symm 22 6 rfl rfl rfl d_EL_cast_188 ?_
  refine g_istore (pc := 191) (L' := [(9, .int o20), (8, .int o15), (7, .int s0), (0, .ref ((q 17))), (1, .int l1), (3, .int l3), (5, .int l5)]) hX d_EL_cast_191 rfl rfl ?_
  refine g_iconst (pc := 193) hX d_EL_cast_193 zc_0 ?_
  refine g_istore (pc := 194) (L' := [(10, .int ((0 : Int32))), (9, .int o20), (8, .int o15), (7, .int s0), (0, .ref ((q 17))), (1, .int l1), (3, .int l3), (5, .int l5)]) hX d_EL_cast_194 rfl rfl ?_
  refine g_ls (L' := [(0, .ref ((q 17))), (1, .int l1), (3, .int l3), (7, .int s0), (8, .int o15), (9, .int o20), (10, .int ((0 : Int32)))]) [4, 5, 6, 3, 2, 1, 0] rfl ?_
  exact w_EL_cast_196 hX hR _ _ _ _ _ _ h
def k_EL_cast_93 (l1 : Int32) (l2 : Int32) (l3 : Int32) (l5 : Int32) (s0 : Int32) (x : zsX) : Option (Int32 × zsX) := (if s0 = 0 then (k_Fi_at x.2.2.2.2.1.1.1 l5 ((1 : Int32))).bind fun o14 => k_EL_cast_117 l1 l2 l3 l5 o14 x else k_EL_cast_117 l1 l2 l3 l5 l2 x)
set_option maxRecDepth 20000 in
theorem w_EL_cast_93 {X : zX} {c : zY} {q : Nat → Nat} {l1 : Int32} {l2 : Int32} {l3 : Int32} {out : Int32 × zsX} (hX : Ok X zr_EL zb_EL_cast 11 7 c) (hR : Rt X (some .int) (some (.int out.1)) (zwX c q out.2)) : ∀ (l5 : Int32) (s0 : Int32) (x : zsX), k_EL_cast_93 l1 l2 l3 l5 s0 x = some out → Go X (zwX c q x) [(0, .ref ((q 17))), (1, .int l1), (2, .int l2), (3, .int l3), (5, .int l5)] 93 [.int s0] := by
  intro l5 s0 x h
  rw [k_EL_cast_93] at h
  refine g_istore (pc := 93) (L' := [(6, .int s0), (0, .ref ((q 17))), (1, .int l1), (2, .int l2), (3, .int l3), (5, .int l5)]) hX d_EL_cast_93 rfl rfl ?_
  refine g_iload (pc := 95) hX d_EL_cast_95 0 rfl ?_
  refine g_if_eq (pc := 97) (tgt := 104) hX d_EL_cast_97 (by decide) h (fun c13 h => ?_) (fun c13 h => ?_)
  · refine g_aload_n (pc := 104) hX d_EL_cast_104 rfl 1 rfl ?_
    refine gf_EL_10 (pc := 105) (v := .ref ((q 12))) hX 3 rfl rfl d_EL_cast_105 ?_
    refine gf_EL_59 (pc := 108) (v := .ref ((q 6))) hX 19 rfl rfl d_EL_cast_108 ?_
    refine g_iload (pc := 111) hX d_EL_cast_111 5 rfl ?_
    refine g_iconst (pc := 113) hX d_EL_cast_113 zc_1 ?_
    obtain ⟨o14, e14, h⟩ := zbind h
    refine g_cvI (pc := 114)  (st := []) (w' := (zwX c q x)) hX zk_Fi_at zs_Fi_at zL_EL_107 (c_Fi_at c q x.2.2.2.2.1.1.1 l5 ((1 : Int32)) e14) rfl rfl rfl rfl (sp_EL_Fi_7 c q x) (sp_EL_Fi_7 c q x).symm 13 3 rfl rfl rfl d_EL_cast_114 ?_
    refine g_ls (L' := [(0, .ref ((q 17))), (1, .int l1), (3, .int l3), (5, .int l5)]) [1, 2, 4, 5] rfl ?_
    exact w_EL_cast_117 hX hR _ _ _ h
  · refine g_iload_n (pc := 100) hX d_EL_cast_100 rfl 3 rfl ?_
    refine g_goto (pc := 101) (tgt := 117) hX d_EL_cast_101 (by decide) ?_
    refine g_ls (L' := [(0, .ref ((q 17))), (1, .int l1), (3, .int l3), (5, .int l5)]) [1, 2, 4, 5] rfl ?_
    exact w_EL_cast_117 hX hR _ _ _ h
def k_EL_cast (x : zsX) (l1 : Int32) (l2 : Int32) (l3 : Int32) : Option (Int32 × zsX) := (k_Ta_holds 25 100 x.2.2.2.2.1.2.2.1 l1).bind fun o1 => (if o1 = 0 then some ((-1 : Int32), x) else (k_EL_isCell l2).bind fun o3 => (if o3 = 0 then some ((-1 : Int32), x) else (k_EL_isDirection l3).bind fun o5 => (if o5 = 0 then some ((-1 : Int32), x) else (k_EL_whyNoCast x l1).bind fun o7 => (if o7 = 0 then (k_Ch_keep x.2.2.2.2.1 x.2.2.2.2.2.1).bind fun o9 => (k_En_current x.2.2.2.2.1.1).bind fun o10 => (k_Ta_get 25 100 x.2.2.2.2.1.2.2.1 l1 ((0 : Int32))).bind fun o11 => (if o11 < (2 : Int32) then k_EL_cast_93 l1 l2 l3 o10 ((1 : Int32)) ((x.1, x.2.1, x.2.2.1, x.2.2.2.1, x.2.2.2.2.1, o9, x.2.2.2.2.2.2)) else k_EL_cast_93 l1 l2 l3 o10 ((0 : Int32)) ((x.1, x.2.1, x.2.2.1, x.2.2.2.1, x.2.2.2.2.1, o9, x.2.2.2.2.2.2))) else (k_EL_refuse x o7).bind fun o23 => some (o23.1, o23.2)))))
set_option maxRecDepth 20000 in
theorem c_EL_cast (c : zY) (q : Nat → Nat) (x : zsX) (l1 : Int32) (l2 : Int32) (l3 : Int32) {out : Int32 × zsX} (h : k_EL_cast x l1 l2 l3 = some out) : KM zy_EL_cast zb_EL_cast 11 (some .int) 7 c [.ref ((q 17)), .int l1, .int l2, .int l3] (zwX c q x) (zwX c q out.2) (some (.int out.1)) := zK_of zp_EL rfl (Nat.le_of_ble_eq_true rfl) (zq_EL c q _ _) (fun X hX hR => by
  show Go X (zwX c q x) [(0, .ref ((q 17))), (1, .int l1), (2, .int l2), (3, .int l3)] 0 []
  rw [k_EL_cast] at h
  refine g_aload_n (pc := 0) hX d_EL_cast_0 rfl 0 rfl ?_
  refine gf_EL_10 (pc := 1) (v := .ref ((q 12))) hX 3 rfl rfl d_EL_cast_1 ?_
  refine gf_EL_179 (pc := 4) (v := .ref ((q 15))) hX 19 rfl rfl d_EL_cast_4 ?_
  refine g_iload_n (pc := 7) hX d_EL_cast_7 rfl 1 rfl ?_
  obtain ⟨o1, e1, h⟩ := zbind h
  refine g_cvI (pc := 8)  (st := []) (w' := (zwX c q x)) hX zk_Ta_holds zs_Ta_holds zL_EL_182 (c_Ta_holds c (q 15) (q 16) 25 100 x.2.2.2.2.1.2.2.1 l1 e1) rfl rfl rfl rfl (sp_EL_Ta_22 c q x) (sp_EL_Ta_22 c q x).symm 22 6 rfl rfl rfl d_EL_cast_8 ?_
  refine g_if_eq (pc := 11) (tgt := 28) hX d_EL_cast_11 (by decide) h (fun c2 h => ?_) (fun c2 h => ?_)
  · refine g_iconst (pc := 28) hX d_EL_cast_28 zc_m1 ?_
    obtain rfl := Option.some.inj h
    exact g_iret (pc := 29) hX hR d_EL_cast_29
  · refine g_iload_n (pc := 14) hX d_EL_cast_14 rfl 2 rfl ?_
    obtain ⟨o3, e3, h⟩ := zbind h
    refine g_csI (pc := 15) (st := []) hX zk_EL_isCell zL_EL_48 (c_EL_isCell c l2 e3) rfl rfl rfl rfl rfl d_EL_cast_15 ?_
    refine g_if_eq (pc := 18) (tgt := 28) hX d_EL_cast_18 (by decide) h (fun c4 h => ?_) (fun c4 h => ?_)
    · refine g_iconst (pc := 28) hX d_EL_cast_28 zc_m1 ?_
      obtain rfl := Option.some.inj h
      exact g_iret (pc := 29) hX hR d_EL_cast_29
    · refine g_iload_n (pc := 21) hX d_EL_cast_21 rfl 3 rfl ?_
      obtain ⟨o5, e5, h⟩ := zbind h
      refine g_csI (pc := 22) (st := []) hX zk_EL_isDirection zL_EL_197 (c_EL_isDirection c l3 e5) rfl rfl rfl rfl rfl d_EL_cast_22 ?_
      refine g_if_ne (pc := 25) (tgt := 30) hX d_EL_cast_25 (by decide) h (fun c6 h => ?_) (fun c6 h => ?_)
      · refine g_aload_n (pc := 30) hX d_EL_cast_30 rfl 0 rfl ?_
        refine g_iload_n (pc := 31) hX d_EL_cast_31 rfl 1 rfl ?_
        obtain ⟨o7, e7, h⟩ := zbind h
        refine g_cvI (pc := 32) (w1 := []) (w2 := []) (st := []) (w' := (zwX c q x)) hX zk_EL_whyNoCast zs_EL_whyNoCast zL_EL_200 (c_EL_whyNoCast c q x l1 e7) rfl rfl rfl rfl (zself _) (zself _).symm 3 9 rfl rfl rfl d_EL_cast_32 ?_
        refine g_istore (pc := 35) (L' := [(4, .int o7), (0, .ref ((q 17))), (1, .int l1), (2, .int l2), (3, .int l3)]) hX d_EL_cast_35 rfl rfl ?_
        refine g_iload (pc := 37) hX d_EL_cast_37 0 rfl ?_
        refine g_if_eq (pc := 39) (tgt := 49) hX d_EL_cast_39 (by decide) h (fun c8 h => ?_) (fun c8 h => ?_)
        · refine g_aload_n (pc := 49) hX d_EL_cast_49 rfl 1 rfl ?_
          refine gf_EL_22 (pc := 50) (v := .ref ((q 24))) hX 3 rfl rfl d_EL_cast_50 ?_
          refine g_aload_n (pc := 53) hX d_EL_cast_53 rfl 1 rfl ?_
          refine gf_EL_10 (pc := 54) (v := .ref ((q 12))) hX 3 rfl rfl d_EL_cast_54 ?_
          obtain ⟨o9, e9, h⟩ := zbind h
          refine g_cvV (pc := 57) (st := []) (w' := (zwX c q ((x.1, x.2.1, x.2.2.1, x.2.2.2.1, x.2.2.2.2.1, o9, x.2.2.2.2.2.2)))) hX zk_Ch_keep zs_Ch_keep zL_EL_69 (c_Ch_keep c q x.2.2.2.2.1 x.2.2.2.2.2.1 e9) rfl rfl rfl rfl (sp_KN c q x) (sq_KN c q x o9) 24 0 rfl rfl rfl d_EL_cast_57 ?_
          refine g_aload_n (pc := 60) hX d_EL_cast_60 rfl 1 rfl ?_
          refine gf_EL_10 (pc := 61) (v := .ref ((q 12))) hX 3 rfl rfl d_EL_cast_61 ?_
          refine gf_EL_97 (pc := 64) (v := .ref ((q 9))) hX 19 rfl rfl d_EL_cast_64 ?_
          obtain ⟨o10, e10, h⟩ := zbind h
          refine g_cvI (pc := 67)  (st := []) (w' := (zwX c q ((x.1, x.2.1, x.2.2.1, x.2.2.2.1, x.2.2.2.2.1, o9, x.2.2.2.2.2.2)))) hX zk_En_current zs_En_current zL_EL_120 (c_En_current c q x.2.2.2.2.1.1 e10) rfl rfl rfl rfl (sp_EL_En_7 c q ((x.1, x.2.1, x.2.2.1, x.2.2.2.1, x.2.2.2.2.1, o9, x.2.2.2.2.2.2))) (sp_EL_En_7 c q ((x.1, x.2.1, x.2.2.1, x.2.2.2.1, x.2.2.2.2.1, o9, x.2.2.2.2.2.2))).symm 16 2 rfl rfl rfl d_EL_cast_67 ?_
          refine g_istore (pc := 70) (L' := [(5, .int o10), (4, .int o7), (0, .ref ((q 17))), (1, .int l1), (2, .int l2), (3, .int l3)]) hX d_EL_cast_70 rfl rfl ?_
          refine g_aload_n (pc := 72) hX d_EL_cast_72 rfl 2 rfl ?_
          refine gf_EL_10 (pc := 73) (v := .ref ((q 12))) hX 3 rfl rfl d_EL_cast_73 ?_
          refine gf_EL_179 (pc := 76) (v := .ref ((q 15))) hX 19 rfl rfl d_EL_cast_76 ?_
          refine g_iload_n (pc := 79) hX d_EL_cast_79 rfl 3 rfl ?_
          refine g_iconst (pc := 80) hX d_EL_cast_80 zc_0 ?_
          obtain ⟨o11, e11, h⟩ := zbind h
          refine g_cvI (pc := 81)  (st := []) (w' := (zwX c q ((x.1, x.2.1, x.2.2.1, x.2.2.2.1, x.2.2.2.2.1, o9, x.2.2.2.2.2.2)))) hX zk_Ta_get zs_Ta_get zL_EL_84 (c_Ta_get c (q 15) (q 16) 25 100 x.2.2.2.2.1.2.2.1 l1 ((0 : Int32)) e11) rfl rfl rfl rfl (sp_EL_Ta_22 c q ((x.1, x.2.1, x.2.2.1, x.2.2.2.1, x.2.2.2.2.1, o9, x.2.2.2.2.2.2))) (sp_EL_Ta_22 c q ((x.1, x.2.1, x.2.2.1, x.2.2.2.1, x.2.2.2.2.1, o9, x.2.2.2.2.2.2))).symm 22 6 rfl rfl rfl d_EL_cast_81 ?_
          refine g_iconst (pc := 84) hX d_EL_cast_84 zc_2 ?_
          refine g_icmp_ge (pc := 85) (tgt := 92) hX d_EL_cast_85 (by decide) h (fun c12 h => ?_) (fun c12 h => ?_)
          · refine g_iconst (pc := 92) hX d_EL_cast_92 zc_0 ?_
            refine g_ls (L' := [(0, .ref ((q 17))), (1, .int l1), (2, .int l2), (3, .int l3), (5, .int o10)]) [2, 3, 4, 5, 0] rfl ?_
            exact w_EL_cast_93 hX hR _ _ _ h
          · refine g_iconst (pc := 88) hX d_EL_cast_88 zc_1 ?_
            refine g_goto (pc := 89) (tgt := 93) hX d_EL_cast_89 (by decide) ?_
            refine g_ls (L' := [(0, .ref ((q 17))), (1, .int l1), (2, .int l2), (3, .int l3), (5, .int o10)]) [2, 3, 4, 5, 0] rfl ?_
            exact w_EL_cast_93 hX hR _ _ _ h
        · refine g_aload_n (pc := 42) hX d_EL_cast_42 rfl 1 rfl ?_
          refine g_iload (pc := 43) hX d_EL_cast_43 0 rfl ?_
          obtain ⟨o23, e23, h⟩ := zbind h
          refine g_cvI (pc := 45) (w1 := []) (w2 := []) (st := []) (w' := (zwX c q o23.2)) hX zk_EL_refuse zs_EL_refuse zL_EL_55 (c_EL_refuse c q x o7 e23) rfl rfl rfl rfl (zself _) (zself _).symm 3 9 rfl rfl rfl d_EL_cast_45 ?_
          obtain rfl := Option.some.inj h
          exact g_iret (pc := 48) hX hR d_EL_cast_48
      · refine g_iconst (pc := 28) hX d_EL_cast_28 zc_m1 ?_
        obtain rfl := Option.some.inj h
        exact g_iret (pc := 29) hX hR d_EL_cast_29)
theorem d_EL_rest_0 : decode zb_EL_rest 0 = .ok (.iload_n 1, 1) := by decide +kernel
theorem d_EL_rest_1 : decode zb_EL_rest 1 = .ok (.ifCond .eq 10, 3) := by decide +kernel
theorem d_EL_rest_4 : decode zb_EL_rest 4 = .ok (.iload_n 1, 1) := by decide +kernel
theorem d_EL_rest_5 : decode zb_EL_rest 5 = .ok (.iconst 1, 1) := by decide +kernel
theorem d_EL_rest_6 : decode zb_EL_rest 6 = .ok (.if_icmp .eq 5, 3) := by decide +kernel
theorem d_EL_rest_9 : decode zb_EL_rest 9 = .ok (.iconst (-1), 1) := by decide +kernel
theorem d_EL_rest_10 : decode zb_EL_rest 10 = .ok (.ireturn, 1) := by decide +kernel
theorem d_EL_rest_11 : decode zb_EL_rest 11 = .ok (.aload_n 0, 1) := by decide +kernel
theorem d_EL_rest_12 : decode zb_EL_rest 12 = .ok (.getfield 10, 3) := by decide +kernel
theorem d_EL_rest_15 : decode zb_EL_rest 15 = .ok (.getfield 97, 3) := by decide +kernel
theorem d_EL_rest_18 : decode zb_EL_rest 18 = .ok (.invokevirtual 101, 3) := by decide +kernel
theorem d_EL_rest_21 : decode zb_EL_rest 21 = .ok (.ifCond .eq 9, 3) := by decide +kernel
theorem d_EL_rest_24 : decode zb_EL_rest 24 = .ok (.aload_n 0, 1) := by decide +kernel
theorem d_EL_rest_25 : decode zb_EL_rest 25 = .ok (.iconst 2, 1) := by decide +kernel
theorem d_EL_rest_26 : decode zb_EL_rest 26 = .ok (.invokevirtual 55, 3) := by decide +kernel
theorem d_EL_rest_29 : decode zb_EL_rest 29 = .ok (.ireturn, 1) := by decide +kernel
theorem d_EL_rest_30 : decode zb_EL_rest 30 = .ok (.aload_n 0, 1) := by decide +kernel
theorem d_EL_rest_31 : decode zb_EL_rest 31 = .ok (.getfield 10, 3) := by decide +kernel
theorem d_EL_rest_34 : decode zb_EL_rest 34 = .ok (.getfield 59, 3) := by decide +kernel
theorem d_EL_rest_37 : decode zb_EL_rest 37 = .ok (.invokevirtual 63, 3) := by decide +kernel
theorem d_EL_rest_40 : decode zb_EL_rest 40 = .ok (.ifCond .ne 10, 3) := by decide +kernel
theorem d_EL_rest_43 : decode zb_EL_rest 43 = .ok (.aload_n 0, 1) := by decide +kernel
theorem d_EL_rest_44 : decode zb_EL_rest 44 = .ok (.bipush 10, 2) := by decide +kernel
theorem d_EL_rest_46 : decode zb_EL_rest 46 = .ok (.invokevirtual 55, 3) := by decide +kernel
theorem d_EL_rest_49 : decode zb_EL_rest 49 = .ok (.ireturn, 1) := by decide +kernel
theorem d_EL_rest_50 : decode zb_EL_rest 50 = .ok (.aload_n 0, 1) := by decide +kernel
theorem d_EL_rest_51 : decode zb_EL_rest 51 = .ok (.getfield 22, 3) := by decide +kernel
theorem d_EL_rest_54 : decode zb_EL_rest 54 = .ok (.aload_n 0, 1) := by decide +kernel
theorem d_EL_rest_55 : decode zb_EL_rest 55 = .ok (.getfield 10, 3) := by decide +kernel
theorem d_EL_rest_58 : decode zb_EL_rest 58 = .ok (.invokevirtual 69, 3) := by decide +kernel
theorem d_EL_rest_61 : decode zb_EL_rest 61 = .ok (.aload_n 0, 1) := by decide +kernel
theorem d_EL_rest_62 : decode zb_EL_rest 62 = .ok (.getfield 10, 3) := by decide +kernel
theorem d_EL_rest_65 : decode zb_EL_rest 65 = .ok (.dup, 1) := by decide +kernel
theorem d_EL_rest_66 : decode zb_EL_rest 66 = .ok (.getfield 214, 3) := by decide +kernel
theorem d_EL_rest_69 : decode zb_EL_rest 69 = .ok (.iconst 1, 1) := by decide +kernel
theorem d_EL_rest_70 : decode zb_EL_rest 70 = .ok (.iadd, 1) := by decide +kernel
theorem d_EL_rest_71 : decode zb_EL_rest 71 = .ok (.putfield 214, 3) := by decide +kernel
theorem d_EL_rest_74 : decode zb_EL_rest 74 = .ok (.iconst 0, 1) := by decide +kernel
theorem d_EL_rest_75 : decode zb_EL_rest 75 = .ok (.istore_n 2, 1) := by decide +kernel
theorem d_EL_rest_76 : decode zb_EL_rest 76 = .ok (.iconst 0, 1) := by decide +kernel
theorem d_EL_rest_77 : decode zb_EL_rest 77 = .ok (.istore_n 3, 1) := by decide +kernel
theorem d_EL_rest_78 : decode zb_EL_rest 78 = .ok (.iload_n 3, 1) := by decide +kernel
theorem d_EL_rest_79 : decode zb_EL_rest 79 = .ok (.aload_n 0, 1) := by decide +kernel
theorem d_EL_rest_80 : decode zb_EL_rest 80 = .ok (.getfield 10, 3) := by decide +kernel
theorem d_EL_rest_83 : decode zb_EL_rest 83 = .ok (.getfield 59, 3) := by decide +kernel
theorem d_EL_rest_86 : decode zb_EL_rest 86 = .ok (.invokevirtual 63, 3) := by decide +kernel
theorem d_EL_rest_89 : decode zb_EL_rest 89 = .ok (.if_icmp .ge 42, 3) := by decide +kernel
theorem d_EL_rest_92 : decode zb_EL_rest 92 = .ok (.iload_n 2, 1) := by decide +kernel
theorem d_EL_rest_93 : decode zb_EL_rest 93 = .ok (.iload_n 1, 1) := by decide +kernel
theorem d_EL_rest_94 : decode zb_EL_rest 94 = .ok (.iconst 1, 1) := by decide +kernel
theorem d_EL_rest_95 : decode zb_EL_rest 95 = .ok (.if_icmp .ne 17, 3) := by decide +kernel
theorem d_EL_rest_98 : decode zb_EL_rest 98 = .ok (.aload_n 0, 1) := by decide +kernel
theorem d_EL_rest_99 : decode zb_EL_rest 99 = .ok (.getfield 10, 3) := by decide +kernel
theorem d_EL_rest_102 : decode zb_EL_rest 102 = .ok (.getfield 59, 3) := by decide +kernel
theorem d_EL_rest_105 : decode zb_EL_rest 105 = .ok (.iload_n 3, 1) := by decide +kernel
theorem d_EL_rest_106 : decode zb_EL_rest 106 = .ok (.invokevirtual 217, 3) := by decide +kernel
theorem d_EL_rest_109 : decode zb_EL_rest 109 = .ok (.goto 14, 3) := by decide +kernel
theorem d_EL_rest_112 : decode zb_EL_rest 112 = .ok (.aload_n 0, 1) := by decide +kernel
theorem d_EL_rest_113 : decode zb_EL_rest 113 = .ok (.getfield 10, 3) := by decide +kernel
theorem d_EL_rest_116 : decode zb_EL_rest 116 = .ok (.getfield 59, 3) := by decide +kernel
theorem d_EL_rest_119 : decode zb_EL_rest 119 = .ok (.iload_n 3, 1) := by decide +kernel
theorem d_EL_rest_120 : decode zb_EL_rest 120 = .ok (.invokevirtual 220, 3) := by decide +kernel
theorem d_EL_rest_123 : decode zb_EL_rest 123 = .ok (.iadd, 1) := by decide +kernel
theorem d_EL_rest_124 : decode zb_EL_rest 124 = .ok (.istore_n 2, 1) := by decide +kernel
theorem d_EL_rest_125 : decode zb_EL_rest 125 = .ok (.iinc 3 1, 3) := by decide +kernel
theorem d_EL_rest_128 : decode zb_EL_rest 128 = .ok (.goto (-50), 3) := by decide +kernel
theorem d_EL_rest_131 : decode zb_EL_rest 131 = .ok (.iload_n 1, 1) := by decide +kernel
theorem d_EL_rest_132 : decode zb_EL_rest 132 = .ok (.iconst 1, 1) := by decide +kernel
theorem d_EL_rest_133 : decode zb_EL_rest 133 = .ok (.if_icmp .ne 14, 3) := by decide +kernel
theorem d_EL_rest_136 : decode zb_EL_rest 136 = .ok (.aload_n 0, 1) := by decide +kernel
theorem d_EL_rest_137 : decode zb_EL_rest 137 = .ok (.getfield 10, 3) := by decide +kernel
theorem d_EL_rest_140 : decode zb_EL_rest 140 = .ok (.getfield 223, 3) := by decide +kernel
theorem d_EL_rest_143 : decode zb_EL_rest 143 = .ok (.iconst 3, 1) := by decide +kernel
theorem d_EL_rest_144 : decode zb_EL_rest 144 = .ok (.invokevirtual 227, 3) := by decide +kernel
theorem d_EL_rest_147 : decode zb_EL_rest 147 = .ok (.iload_n 2, 1) := by decide +kernel
theorem d_EL_rest_148 : decode zb_EL_rest 148 = .ok (.ireturn, 1) := by decide +kernel
def k_EL_rest_78 (l1 : Int32) : Nat → Int32 → Int32 → zsX → Option (Int32 × zsX)
  | 0, _, _, _ => none
  | fu + 1, l2, l3, x => (k_Fi_size x.2.2.2.2.1.1.1).bind fun o7 => (if l3 < o7 then (if l1 = (1 : Int32) then (k_Fi_restLong x.2.2.2.2.1.1.1 l3).bind fun o13 => k_EL_rest_78 l1 fu ((l2 + o13.1)) ((l3 + (1 : Int32))) ((x.1, x.2.1, x.2.2.1, x.2.2.2.1, ((o13.2, x.2.2.2.2.1.1.2.1, x.2.2.2.2.1.1.2.2), x.2.2.2.2.1.2.1, x.2.2.2.2.1.2.2.1, x.2.2.2.2.1.2.2.2), x.2.2.2.2.2.1, x.2.2.2.2.2.2)) else (k_Fi_restShort x.2.2.2.2.1.1.1 l3).bind fun o12 => k_EL_rest_78 l1 fu ((l2 + o12.1)) ((l3 + (1 : Int32))) ((x.1, x.2.1, x.2.2.1, x.2.2.2.1, ((o12.2, x.2.2.2.2.1.1.2.1, x.2.2.2.2.1.1.2.2), x.2.2.2.2.1.2.1, x.2.2.2.2.1.2.2.1, x.2.2.2.2.1.2.2.2), x.2.2.2.2.2.1, x.2.2.2.2.2.2))) else (if l1 = (1 : Int32) then (k_Co_endWith x.2.2.2.2.1.1.1.1 ((3 : Int32))).bind fun o10 => some (l2, (x.1, x.2.1, x.2.2.1, x.2.2.2.1, (((o10, x.2.2.2.2.1.1.1.2.1, x.2.2.2.2.1.1.1.2.2), x.2.2.2.2.1.1.2.1, x.2.2.2.2.1.1.2.2), x.2.2.2.2.1.2.1, x.2.2.2.2.1.2.2.1, x.2.2.2.2.1.2.2.2), x.2.2.2.2.2.1, x.2.2.2.2.2.2)) else some (l2, x)))
set_option maxRecDepth 20000 in
theorem w_EL_rest_78 {X : zX} {c : zY} {q : Nat → Nat} {l1 : Int32} {out : Int32 × zsX} (hX : Ok X zr_EL zb_EL_rest 4 5 c) (hR : Rt X (some .int) (some (.int out.1)) (zwX c q out.2)) : ∀ (fu : Nat) (l2 : Int32) (l3 : Int32) (x : zsX), k_EL_rest_78 l1 fu l2 l3 x = some out → Go X (zwX c q x) [(0, .ref ((q 17))), (1, .int l1), (2, .int l2), (3, .int l3)] 78 [] := by
  intro fu
  induction fu with
  | zero => intro l2 l3 x h; rw [k_EL_rest_78] at h; cases h
  | succ fu ih =>
    intro l2 l3 x h
    rw [k_EL_rest_78] at h
    refine g_iload_n (pc := 78) hX d_EL_rest_78 rfl 3 rfl ?_
    refine g_aload_n (pc := 79) hX d_EL_rest_79 rfl 0 rfl ?_
    refine gf_EL_10 (pc := 80) (v := .ref ((q 12))) hX 3 rfl rfl d_EL_rest_80 ?_
    refine gf_EL_59 (pc := 83) (v := .ref ((q 6))) hX 19 rfl rfl d_EL_rest_83 ?_
    obtain ⟨o7, e7, h⟩ := zbind h
    refine g_cvI (pc := 86)  (st := [.int l3]) (w' := (zwX c q x)) hX zk_Fi_size zs_Fi_size zL_EL_63 (c_Fi_size c q x.2.2.2.2.1.1.1 e7) rfl rfl rfl rfl (sp_EL_Fi_7 c q x) (sp_EL_Fi_7 c q x).symm 13 3 rfl rfl rfl d_EL_rest_86 ?_
    refine g_icmp_ge (pc := 89) (tgt := 131) hX d_EL_rest_89 (by decide) h (fun c8 h => ?_) (fun c8 h => ?_)
    · refine g_iload_n (pc := 131) hX d_EL_rest_131 rfl 1 rfl ?_
      refine g_iconst (pc := 132) hX d_EL_rest_132 zc_1 ?_
      refine g_icmp_ne (pc := 133) (tgt := 147) hX d_EL_rest_133 (by decide) h (fun c9 h => ?_) (fun c9 h => ?_)
      · refine g_iload_n (pc := 147) hX d_EL_rest_147 rfl 2 rfl ?_
        obtain rfl := Option.some.inj h
        exact g_iret (pc := 148) hX hR d_EL_rest_148
      · refine g_aload_n (pc := 136) hX d_EL_rest_136 rfl 0 rfl ?_
        refine gf_EL_10 (pc := 137) (v := .ref ((q 12))) hX 3 rfl rfl d_EL_rest_137 ?_
        refine gf_EL_223 (pc := 140) (v := .ref ((q 2))) hX 19 rfl rfl d_EL_rest_140 ?_
        refine g_iconst (pc := 143) hX d_EL_rest_143 zc_3 ?_
        obtain ⟨o10, e10, h⟩ := zbind h
        refine g_cvV (pc := 144)  (st := []) (w' := (zwX c q ((x.1, x.2.1, x.2.2.1, x.2.2.2.1, (((o10, x.2.2.2.2.1.1.1.2.1, x.2.2.2.2.1.1.1.2.2), x.2.2.2.2.1.1.2.1, x.2.2.2.2.1.1.2.2), x.2.2.2.2.1.2.1, x.2.2.2.2.1.2.2.1, x.2.2.2.2.1.2.2.2), x.2.2.2.2.2.1, x.2.2.2.2.2.2)))) hX zk_Co_endWith zs_Co_endWith zL_EL_227 (c_Co_endWith c q x.2.2.2.2.1.1.1.1 ((3 : Int32)) e10) rfl rfl rfl rfl (sp_EL_Co_7 c q x) (sq_EL_Co_7 c q x o10) 9 1 rfl rfl rfl d_EL_rest_144 ?_
        refine g_iload_n (pc := 147) hX d_EL_rest_147 rfl 2 rfl ?_
        obtain rfl := Option.some.inj h
        exact g_iret (pc := 148) hX hR d_EL_rest_148
    · refine g_iload_n (pc := 92) hX d_EL_rest_92 rfl 2 rfl ?_
      refine g_iload_n (pc := 93) hX d_EL_rest_93 rfl 1 rfl ?_
      refine g_iconst (pc := 94) hX d_EL_rest_94 zc_1 ?_
      refine g_icmp_ne (pc := 95) (tgt := 112) hX d_EL_rest_95 (by decide) h (fun c11 h => ?_) (fun c11 h => ?_)
      · refine g_aload_n (pc := 112) hX d_EL_rest_112 rfl 0 rfl ?_
        refine gf_EL_10 (pc := 113) (v := .ref ((q 12))) hX 3 rfl rfl d_EL_rest_113 ?_
        refine gf_EL_59 (pc := 116) (v := .ref ((q 6))) hX 19 rfl rfl d_EL_rest_116 ?_
        refine g_iload_n (pc := 119) hX d_EL_rest_119 rfl 3 rfl ?_
        obtain ⟨o12, e12, h⟩ := zbind h
        refine g_cvI (pc := 120)  (st := [.int l2]) (w' := (zwX c q ((x.1, x.2.1, x.2.2.1, x.2.2.2.1, ((o12.2, x.2.2.2.2.1.1.2.1, x.2.2.2.2.1.1.2.2), x.2.2.2.2.1.2.1, x.2.2.2.2.1.2.2.1, x.2.2.2.2.1.2.2.2), x.2.2.2.2.2.1, x.2.2.2.2.2.2)))) hX zk_Fi_restShort zs_Fi_restShort zL_EL_220 (c_Fi_restShort c q x.2.2.2.2.1.1.1 l3 e12) rfl rfl rfl rfl (sp_EL_Fi_7 c q x) (sq_EL_Fi_7 c q x o12.2) 13 3 rfl rfl rfl d_EL_rest_120 ?_
        refine g_iadd (pc := 123) hX d_EL_rest_123 ?_
        refine g_istore_n (pc := 124) (L' := [(2, .int ((l2 + o12.1))), (0, .ref ((q 17))), (1, .int l1), (3, .int l3)]) hX d_EL_rest_124 rfl rfl rfl ?_
        refine g_iinc (pc := 125) (q := 3) (L' := [(3, .int ((l3 + (1 : Int32)))), (2, .int ((l2 + o12.1))), (0, .ref ((q 17))), (1, .int l1)]) hX d_EL_rest_125 rfl zc_1 rfl rfl ?_
        refine g_goto (pc := 128) (tgt := 78) hX d_EL_rest_128 (by decide) ?_
        refine g_ls (L' := [(0, .ref ((q 17))), (1, .int l1), (2, .int ((l2 + o12.1))), (3, .int ((l3 + (1 : Int32))))]) [2, 3, 1, 0] rfl ?_
        exact ih _ _ _ h
      · refine g_aload_n (pc := 98) hX d_EL_rest_98 rfl 0 rfl ?_
        refine gf_EL_10 (pc := 99) (v := .ref ((q 12))) hX 3 rfl rfl d_EL_rest_99 ?_
        refine gf_EL_59 (pc := 102) (v := .ref ((q 6))) hX 19 rfl rfl d_EL_rest_102 ?_
        refine g_iload_n (pc := 105) hX d_EL_rest_105 rfl 3 rfl ?_
        obtain ⟨o13, e13, h⟩ := zbind h
        refine g_cvI (pc := 106)  (st := [.int l2]) (w' := (zwX c q ((x.1, x.2.1, x.2.2.1, x.2.2.2.1, ((o13.2, x.2.2.2.2.1.1.2.1, x.2.2.2.2.1.1.2.2), x.2.2.2.2.1.2.1, x.2.2.2.2.1.2.2.1, x.2.2.2.2.1.2.2.2), x.2.2.2.2.2.1, x.2.2.2.2.2.2)))) hX zk_Fi_restLong zs_Fi_restLong zL_EL_217 (c_Fi_restLong c q x.2.2.2.2.1.1.1 l3 e13) rfl rfl rfl rfl (sp_EL_Fi_7 c q x) (sq_EL_Fi_7 c q x o13.2) 13 3 rfl rfl rfl d_EL_rest_106 ?_
        refine g_goto (pc := 109) (tgt := 123) hX d_EL_rest_109 (by decide) ?_
        refine g_iadd (pc := 123) hX d_EL_rest_123 ?_
        refine g_istore_n (pc := 124) (L' := [(2, .int ((l2 + o13.1))), (0, .ref ((q 17))), (1, .int l1), (3, .int l3)]) hX d_EL_rest_124 rfl rfl rfl ?_
        refine g_iinc (pc := 125) (q := 3) (L' := [(3, .int ((l3 + (1 : Int32)))), (2, .int ((l2 + o13.1))), (0, .ref ((q 17))), (1, .int l1)]) hX d_EL_rest_125 rfl zc_1 rfl rfl ?_
        refine g_goto (pc := 128) (tgt := 78) hX d_EL_rest_128 (by decide) ?_
        refine g_ls (L' := [(0, .ref ((q 17))), (1, .int l1), (2, .int ((l2 + o13.1))), (3, .int ((l3 + (1 : Int32))))]) [2, 3, 1, 0] rfl ?_
        exact ih _ _ _ h
def k_EL_rest_11 (l1 : Int32) (x : zsX) : Option (Int32 × zsX) := (k_En_isOn x.2.2.2.2.1.1).bind fun o2 => (if o2 = 0 then (k_Fi_size x.2.2.2.2.1.1.1).bind fun o4 => (if o4 = 0 then (k_EL_refuse x ((10 : Int32))).bind fun o14 => some (o14.1, o14.2) else (k_Ch_keep x.2.2.2.2.1 x.2.2.2.2.2.1).bind fun o6 => k_EL_rest_78 l1 zFu ((0 : Int32)) ((0 : Int32)) ((x.1, x.2.1, x.2.2.1, x.2.2.2.1, (x.2.2.2.2.1.1, x.2.2.2.2.1.2.1, x.2.2.2.2.1.2.2.1, (x.2.2.2.2.1.2.2.2 + (1 : Int32))), o6, x.2.2.2.2.2.2))) else (k_EL_refuse x ((2 : Int32))).bind fun o15 => some (o15.1, o15.2))
set_option maxRecDepth 20000 in
theorem w_EL_rest_11 {X : zX} {c : zY} {q : Nat → Nat} {l1 : Int32} {out : Int32 × zsX} (hX : Ok X zr_EL zb_EL_rest 4 5 c) (hR : Rt X (some .int) (some (.int out.1)) (zwX c q out.2)) : ∀ (x : zsX), k_EL_rest_11 l1 x = some out → Go X (zwX c q x) [(0, .ref ((q 17))), (1, .int l1)] 11 [] := by
  intro x h
  rw [k_EL_rest_11] at h
  refine g_aload_n (pc := 11) hX d_EL_rest_11 rfl 0 rfl ?_
  refine gf_EL_10 (pc := 12) (v := .ref ((q 12))) hX 3 rfl rfl d_EL_rest_12 ?_
  refine gf_EL_97 (pc := 15) (v := .ref ((q 9))) hX 19 rfl rfl d_EL_rest_15 ?_
  obtain ⟨o2, e2, h⟩ := zbind h
  refine g_cvI (pc := 18)  (st := []) (w' := (zwX c q x)) hX zk_En_isOn zs_En_isOn zL_EL_101 (c_En_isOn c q x.2.2.2.2.1.1 e2) rfl rfl rfl rfl (sp_EL_En_7 c q x) (sp_EL_En_7 c q x).symm 16 2 rfl rfl rfl d_EL_rest_18 ?_
  refine g_if_eq (pc := 21) (tgt := 30) hX d_EL_rest_21 (by decide) h (fun c3 h => ?_) (fun c3 h => ?_)
  · refine g_aload_n (pc := 30) hX d_EL_rest_30 rfl 0 rfl ?_
    refine gf_EL_10 (pc := 31) (v := .ref ((q 12))) hX 3 rfl rfl d_EL_rest_31 ?_
    refine gf_EL_59 (pc := 34) (v := .ref ((q 6))) hX 19 rfl rfl d_EL_rest_34 ?_
    obtain ⟨o4, e4, h⟩ := zbind h
    refine g_cvI (pc := 37)  (st := []) (w' := (zwX c q x)) hX zk_Fi_size zs_Fi_size zL_EL_63 (c_Fi_size c q x.2.2.2.2.1.1.1 e4) rfl rfl rfl rfl (sp_EL_Fi_7 c q x) (sp_EL_Fi_7 c q x).symm 13 3 rfl rfl rfl d_EL_rest_37 ?_
    refine g_if_ne (pc := 40) (tgt := 50) hX d_EL_rest_40 (by decide) h (fun c5 h => ?_) (fun c5 h => ?_)
    · refine g_aload_n (pc := 50) hX d_EL_rest_50 rfl 0 rfl ?_
      refine gf_EL_22 (pc := 51) (v := .ref ((q 24))) hX 3 rfl rfl d_EL_rest_51 ?_
      refine g_aload_n (pc := 54) hX d_EL_rest_54 rfl 0 rfl ?_
      refine gf_EL_10 (pc := 55) (v := .ref ((q 12))) hX 3 rfl rfl d_EL_rest_55 ?_
      obtain ⟨o6, e6, h⟩ := zbind h
      refine g_cvV (pc := 58) (st := []) (w' := (zwX c q ((x.1, x.2.1, x.2.2.1, x.2.2.2.1, x.2.2.2.2.1, o6, x.2.2.2.2.2.2)))) hX zk_Ch_keep zs_Ch_keep zL_EL_69 (c_Ch_keep c q x.2.2.2.2.1 x.2.2.2.2.2.1 e6) rfl rfl rfl rfl (sp_KN c q x) (sq_KN c q x o6) 24 0 rfl rfl rfl d_EL_rest_58 ?_
      refine g_aload_n (pc := 61) hX d_EL_rest_61 rfl 0 rfl ?_
      refine gf_EL_10 (pc := 62) (v := .ref ((q 12))) hX 3 rfl rfl d_EL_rest_62 ?_
      refine g_dup (pc := 65) hX d_EL_rest_65 rfl ?_
      refine gf_EL_214 (pc := 66) (v := .int x.2.2.2.2.1.2.2.2) hX 19 rfl rfl d_EL_rest_66 ?_
      refine g_iconst (pc := 69) hX d_EL_rest_69 zc_1 ?_
      refine g_iadd (pc := 70) hX d_EL_rest_70 ?_
      refine pf_EL_214 (pc := 71) (w2 := (zwX c q ((x.1, x.2.1, x.2.2.1, x.2.2.2.1, (x.2.2.2.2.1.1, x.2.2.2.2.1.2.1, x.2.2.2.2.1.2.2.1, (x.2.2.2.2.1.2.2.2 + (1 : Int32))), o6, x.2.2.2.2.2.2)))) hX 19 rfl rfl (su_EL_19_6 c q ((x.1, x.2.1, x.2.2.1, x.2.2.2.1, x.2.2.2.2.1, o6, x.2.2.2.2.2.2)) ((x.2.2.2.2.1.2.2.2 + (1 : Int32)))) d_EL_rest_71 ?_
      refine g_iconst (pc := 74) hX d_EL_rest_74 zc_0 ?_
      refine g_istore_n (pc := 75) (L' := [(2, .int ((0 : Int32))), (0, .ref ((q 17))), (1, .int l1)]) hX d_EL_rest_75 rfl rfl rfl ?_
      refine g_iconst (pc := 76) hX d_EL_rest_76 zc_0 ?_
      refine g_istore_n (pc := 77) (L' := [(3, .int ((0 : Int32))), (2, .int ((0 : Int32))), (0, .ref ((q 17))), (1, .int l1)]) hX d_EL_rest_77 rfl rfl rfl ?_
      refine g_ls (L' := [(0, .ref ((q 17))), (1, .int l1), (2, .int ((0 : Int32))), (3, .int ((0 : Int32)))]) [2, 3, 1, 0] rfl ?_
      exact w_EL_rest_78 hX hR _ _ _ _ h
    · refine g_aload_n (pc := 43) hX d_EL_rest_43 rfl 0 rfl ?_
      refine g_bipush (pc := 44) hX d_EL_rest_44 ze_10 ?_
      obtain ⟨o14, e14, h⟩ := zbind h
      refine g_cvI (pc := 46) (w1 := []) (w2 := []) (st := []) (w' := (zwX c q o14.2)) hX zk_EL_refuse zs_EL_refuse zL_EL_55 (c_EL_refuse c q x ((10 : Int32)) e14) rfl rfl rfl rfl (zself _) (zself _).symm 3 9 rfl rfl rfl d_EL_rest_46 ?_
      obtain rfl := Option.some.inj h
      exact g_iret (pc := 49) hX hR d_EL_rest_49
  · refine g_aload_n (pc := 24) hX d_EL_rest_24 rfl 0 rfl ?_
    refine g_iconst (pc := 25) hX d_EL_rest_25 zc_2 ?_
    obtain ⟨o15, e15, h⟩ := zbind h
    refine g_cvI (pc := 26) (w1 := []) (w2 := []) (st := []) (w' := (zwX c q o15.2)) hX zk_EL_refuse zs_EL_refuse zL_EL_55 (c_EL_refuse c q x ((2 : Int32)) e15) rfl rfl rfl rfl (zself _) (zself _).symm 3 9 rfl rfl rfl d_EL_rest_26 ?_
    obtain rfl := Option.some.inj h
    exact g_iret (pc := 29) hX hR d_EL_rest_29
def k_EL_rest (x : zsX) (l1 : Int32) : Option (Int32 × zsX) := (if l1 = 0 then k_EL_rest_11 l1 x else (if l1 = (1 : Int32) then k_EL_rest_11 l1 x else some ((-1 : Int32), x)))
set_option maxRecDepth 20000 in
theorem c_EL_rest (c : zY) (q : Nat → Nat) (x : zsX) (l1 : Int32) {out : Int32 × zsX} (h : k_EL_rest x l1 = some out) : KM zy_EL_rest zb_EL_rest 4 (some .int) 5 c [.ref ((q 17)), .int l1] (zwX c q x) (zwX c q out.2) (some (.int out.1)) := zK_of zp_EL rfl (Nat.le_of_ble_eq_true rfl) (zq_EL c q _ _) (fun X hX hR => by
  show Go X (zwX c q x) [(0, .ref ((q 17))), (1, .int l1)] 0 []
  rw [k_EL_rest] at h
  refine g_iload_n (pc := 0) hX d_EL_rest_0 rfl 1 rfl ?_
  refine g_if_eq (pc := 1) (tgt := 11) hX d_EL_rest_1 (by decide) h (fun c1 h => ?_) (fun c1 h => ?_)
  · exact w_EL_rest_11 hX hR _ h
  · refine g_iload_n (pc := 4) hX d_EL_rest_4 rfl 1 rfl ?_
    refine g_iconst (pc := 5) hX d_EL_rest_5 zc_1 ?_
    refine g_icmp_eq (pc := 6) (tgt := 11) hX d_EL_rest_6 (by decide) h (fun c16 h => ?_) (fun c16 h => ?_)
    · exact w_EL_rest_11 hX hR _ h
    · refine g_iconst (pc := 9) hX d_EL_rest_9 zc_m1 ?_
      obtain rfl := Option.some.inj h
      exact g_iret (pc := 10) hX hR d_EL_rest_10)
theorem d_EL_fighter_0 : decode zb_EL_fighter 0 = .ok (.aload_n 0, 1) := by decide +kernel
theorem d_EL_fighter_1 : decode zb_EL_fighter 1 = .ok (.getfield 10, 3) := by decide +kernel
theorem d_EL_fighter_4 : decode zb_EL_fighter 4 = .ok (.getfield 59, 3) := by decide +kernel
theorem d_EL_fighter_7 : decode zb_EL_fighter 7 = .ok (.iload_n 1, 1) := by decide +kernel
theorem d_EL_fighter_8 : decode zb_EL_fighter 8 = .ok (.invokevirtual 94, 3) := by decide +kernel
theorem d_EL_fighter_11 : decode zb_EL_fighter 11 = .ok (.ifCond .ne 6, 3) := by decide +kernel
theorem d_EL_fighter_14 : decode zb_EL_fighter 14 = .ok (.bipush (-100), 2) := by decide +kernel
theorem d_EL_fighter_16 : decode zb_EL_fighter 16 = .ok (.ireturn, 1) := by decide +kernel
theorem d_EL_fighter_17 : decode zb_EL_fighter 17 = .ok (.iload_n 2, 1) := by decide +kernel
theorem d_EL_fighter_18 : decode zb_EL_fighter 18 = .ok (.ifCond .lt 21, 3) := by decide +kernel
theorem d_EL_fighter_21 : decode zb_EL_fighter 21 = .ok (.iload_n 2, 1) := by decide +kernel
theorem d_EL_fighter_22 : decode zb_EL_fighter 22 = .ok (.iconst 5, 1) := by decide +kernel
theorem d_EL_fighter_23 : decode zb_EL_fighter 23 = .ok (.if_icmp .gt 16, 3) := by decide +kernel
theorem d_EL_fighter_26 : decode zb_EL_fighter 26 = .ok (.aload_n 0, 1) := by decide +kernel
theorem d_EL_fighter_27 : decode zb_EL_fighter 27 = .ok (.getfield 10, 3) := by decide +kernel
theorem d_EL_fighter_30 : decode zb_EL_fighter 30 = .ok (.getfield 59, 3) := by decide +kernel
theorem d_EL_fighter_33 : decode zb_EL_fighter 33 = .ok (.iload_n 1, 1) := by decide +kernel
theorem d_EL_fighter_34 : decode zb_EL_fighter 34 = .ok (.iload_n 2, 1) := by decide +kernel
theorem d_EL_fighter_35 : decode zb_EL_fighter 35 = .ok (.invokevirtual 107, 3) := by decide +kernel
theorem d_EL_fighter_38 : decode zb_EL_fighter 38 = .ok (.ireturn, 1) := by decide +kernel
theorem d_EL_fighter_39 : decode zb_EL_fighter 39 = .ok (.iload_n 2, 1) := by decide +kernel
theorem d_EL_fighter_40 : decode zb_EL_fighter 40 = .ok (.bipush 10, 2) := by decide +kernel
theorem d_EL_fighter_42 : decode zb_EL_fighter 42 = .ok (.if_icmp .lt 28, 3) := by decide +kernel
theorem d_EL_fighter_45 : decode zb_EL_fighter 45 = .ok (.iload_n 2, 1) := by decide +kernel
theorem d_EL_fighter_46 : decode zb_EL_fighter 46 = .ok (.bipush 13, 2) := by decide +kernel
theorem d_EL_fighter_48 : decode zb_EL_fighter 48 = .ok (.if_icmp .ge 22, 3) := by decide +kernel
theorem d_EL_fighter_51 : decode zb_EL_fighter 51 = .ok (.aload_n 0, 1) := by decide +kernel
theorem d_EL_fighter_52 : decode zb_EL_fighter 52 = .ok (.getfield 10, 3) := by decide +kernel
theorem d_EL_fighter_55 : decode zb_EL_fighter 55 = .ok (.getfield 59, 3) := by decide +kernel
theorem d_EL_fighter_58 : decode zb_EL_fighter 58 = .ok (.iload_n 1, 1) := by decide +kernel
theorem d_EL_fighter_59 : decode zb_EL_fighter 59 = .ok (.bipush 7, 2) := by decide +kernel
theorem d_EL_fighter_61 : decode zb_EL_fighter 61 = .ok (.iload_n 2, 1) := by decide +kernel
theorem d_EL_fighter_62 : decode zb_EL_fighter 62 = .ok (.iadd, 1) := by decide +kernel
theorem d_EL_fighter_63 : decode zb_EL_fighter 63 = .ok (.bipush 10, 2) := by decide +kernel
theorem d_EL_fighter_65 : decode zb_EL_fighter 65 = .ok (.isub, 1) := by decide +kernel
theorem d_EL_fighter_66 : decode zb_EL_fighter 66 = .ok (.invokevirtual 107, 3) := by decide +kernel
theorem d_EL_fighter_69 : decode zb_EL_fighter 69 = .ok (.ireturn, 1) := by decide +kernel
theorem d_EL_fighter_70 : decode zb_EL_fighter 70 = .ok (.iload_n 2, 1) := by decide +kernel
theorem d_EL_fighter_71 : decode zb_EL_fighter 71 = .ok (.bipush 20, 2) := by decide +kernel
theorem d_EL_fighter_73 : decode zb_EL_fighter 73 = .ok (.if_icmp .lt 28, 3) := by decide +kernel
theorem d_EL_fighter_76 : decode zb_EL_fighter 76 = .ok (.iload_n 2, 1) := by decide +kernel
theorem d_EL_fighter_77 : decode zb_EL_fighter 77 = .ok (.bipush 23, 2) := by decide +kernel
theorem d_EL_fighter_79 : decode zb_EL_fighter 79 = .ok (.if_icmp .ge 22, 3) := by decide +kernel
theorem d_EL_fighter_82 : decode zb_EL_fighter 82 = .ok (.aload_n 0, 1) := by decide +kernel
theorem d_EL_fighter_83 : decode zb_EL_fighter 83 = .ok (.getfield 10, 3) := by decide +kernel
theorem d_EL_fighter_86 : decode zb_EL_fighter 86 = .ok (.getfield 59, 3) := by decide +kernel
theorem d_EL_fighter_89 : decode zb_EL_fighter 89 = .ok (.iload_n 1, 1) := by decide +kernel
theorem d_EL_fighter_90 : decode zb_EL_fighter 90 = .ok (.bipush 10, 2) := by decide +kernel
theorem d_EL_fighter_92 : decode zb_EL_fighter 92 = .ok (.iload_n 2, 1) := by decide +kernel
theorem d_EL_fighter_93 : decode zb_EL_fighter 93 = .ok (.iadd, 1) := by decide +kernel
theorem d_EL_fighter_94 : decode zb_EL_fighter 94 = .ok (.bipush 20, 2) := by decide +kernel
theorem d_EL_fighter_96 : decode zb_EL_fighter 96 = .ok (.isub, 1) := by decide +kernel
theorem d_EL_fighter_97 : decode zb_EL_fighter 97 = .ok (.invokevirtual 107, 3) := by decide +kernel
theorem d_EL_fighter_100 : decode zb_EL_fighter 100 = .ok (.ireturn, 1) := by decide +kernel
theorem d_EL_fighter_101 : decode zb_EL_fighter 101 = .ok (.iload_n 2, 1) := by decide +kernel
theorem d_EL_fighter_102 : decode zb_EL_fighter 102 = .ok (.bipush 30, 2) := by decide +kernel
theorem d_EL_fighter_104 : decode zb_EL_fighter 104 = .ok (.if_icmp .lt 25, 3) := by decide +kernel
theorem d_EL_fighter_107 : decode zb_EL_fighter 107 = .ok (.iload_n 2, 1) := by decide +kernel
theorem d_EL_fighter_108 : decode zb_EL_fighter 108 = .ok (.bipush 36, 2) := by decide +kernel
theorem d_EL_fighter_110 : decode zb_EL_fighter 110 = .ok (.if_icmp .ge 19, 3) := by decide +kernel
theorem d_EL_fighter_113 : decode zb_EL_fighter 113 = .ok (.aload_n 0, 1) := by decide +kernel
theorem d_EL_fighter_114 : decode zb_EL_fighter 114 = .ok (.getfield 10, 3) := by decide +kernel
theorem d_EL_fighter_117 : decode zb_EL_fighter 117 = .ok (.getfield 223, 3) := by decide +kernel
theorem d_EL_fighter_120 : decode zb_EL_fighter 120 = .ok (.iload_n 1, 1) := by decide +kernel
theorem d_EL_fighter_121 : decode zb_EL_fighter 121 = .ok (.iload_n 2, 1) := by decide +kernel
theorem d_EL_fighter_122 : decode zb_EL_fighter 122 = .ok (.bipush 30, 2) := by decide +kernel
theorem d_EL_fighter_124 : decode zb_EL_fighter 124 = .ok (.isub, 1) := by decide +kernel
theorem d_EL_fighter_125 : decode zb_EL_fighter 125 = .ok (.invokevirtual 232, 3) := by decide +kernel
theorem d_EL_fighter_128 : decode zb_EL_fighter 128 = .ok (.ireturn, 1) := by decide +kernel
theorem d_EL_fighter_129 : decode zb_EL_fighter 129 = .ok (.iload_n 2, 1) := by decide +kernel
theorem d_EL_fighter_130 : decode zb_EL_fighter 130 = .ok (.tableswitch 88 6 9 #[30, 50, 62, 76], 30) := by decide +kernel
theorem d_EL_fighter_160 : decode zb_EL_fighter 160 = .ok (.aload_n 0, 1) := by decide +kernel
theorem d_EL_fighter_161 : decode zb_EL_fighter 161 = .ok (.getfield 10, 3) := by decide +kernel
theorem d_EL_fighter_164 : decode zb_EL_fighter 164 = .ok (.getfield 59, 3) := by decide +kernel
theorem d_EL_fighter_167 : decode zb_EL_fighter 167 = .ok (.iload_n 1, 1) := by decide +kernel
theorem d_EL_fighter_168 : decode zb_EL_fighter 168 = .ok (.invokevirtual 235, 3) := by decide +kernel
theorem d_EL_fighter_171 : decode zb_EL_fighter 171 = .ok (.ifCond .eq 7, 3) := by decide +kernel
theorem d_EL_fighter_174 : decode zb_EL_fighter 174 = .ok (.iconst 1, 1) := by decide +kernel
theorem d_EL_fighter_175 : decode zb_EL_fighter 175 = .ok (.goto 4, 3) := by decide +kernel
theorem d_EL_fighter_178 : decode zb_EL_fighter 178 = .ok (.iconst 0, 1) := by decide +kernel
theorem d_EL_fighter_179 : decode zb_EL_fighter 179 = .ok (.ireturn, 1) := by decide +kernel
theorem d_EL_fighter_180 : decode zb_EL_fighter 180 = .ok (.aload_n 0, 1) := by decide +kernel
theorem d_EL_fighter_181 : decode zb_EL_fighter 181 = .ok (.getfield 10, 3) := by decide +kernel
theorem d_EL_fighter_184 : decode zb_EL_fighter 184 = .ok (.getfield 97, 3) := by decide +kernel
theorem d_EL_fighter_187 : decode zb_EL_fighter 187 = .ok (.iload_n 1, 1) := by decide +kernel
theorem d_EL_fighter_188 : decode zb_EL_fighter 188 = .ok (.invokevirtual 238, 3) := by decide +kernel
theorem d_EL_fighter_191 : decode zb_EL_fighter 191 = .ok (.ireturn, 1) := by decide +kernel
theorem d_EL_fighter_192 : decode zb_EL_fighter 192 = .ok (.aload_n 0, 1) := by decide +kernel
theorem d_EL_fighter_193 : decode zb_EL_fighter 193 = .ok (.getfield 10, 3) := by decide +kernel
theorem d_EL_fighter_196 : decode zb_EL_fighter 196 = .ok (.getfield 59, 3) := by decide +kernel
theorem d_EL_fighter_199 : decode zb_EL_fighter 199 = .ok (.iload_n 1, 1) := by decide +kernel
theorem d_EL_fighter_200 : decode zb_EL_fighter 200 = .ok (.bipush 6, 2) := by decide +kernel
theorem d_EL_fighter_202 : decode zb_EL_fighter 202 = .ok (.invokevirtual 107, 3) := by decide +kernel
theorem d_EL_fighter_205 : decode zb_EL_fighter 205 = .ok (.ireturn, 1) := by decide +kernel
theorem d_EL_fighter_206 : decode zb_EL_fighter 206 = .ok (.aload_n 0, 1) := by decide +kernel
theorem d_EL_fighter_207 : decode zb_EL_fighter 207 = .ok (.getfield 10, 3) := by decide +kernel
theorem d_EL_fighter_210 : decode zb_EL_fighter 210 = .ok (.getfield 223, 3) := by decide +kernel
theorem d_EL_fighter_213 : decode zb_EL_fighter 213 = .ok (.iload_n 1, 1) := by decide +kernel
theorem d_EL_fighter_214 : decode zb_EL_fighter 214 = .ok (.invokevirtual 241, 3) := by decide +kernel
theorem d_EL_fighter_217 : decode zb_EL_fighter 217 = .ok (.ireturn, 1) := by decide +kernel
theorem d_EL_fighter_218 : decode zb_EL_fighter 218 = .ok (.bipush (-100), 2) := by decide +kernel
theorem d_EL_fighter_220 : decode zb_EL_fighter 220 = .ok (.ireturn, 1) := by decide +kernel
def k_EL_fighter_129 (x : zsX) (l1 : Int32) (l2 : Int32) : Option (Int32) := (if l2 = (6 : Int32) then (k_Fi_canAct x.2.2.2.2.1.1.1 l1).bind fun o8 => (if o8 = 0 then some ((0 : Int32)) else some ((1 : Int32))) else (if l2 = (7 : Int32) then (k_En_placeOf x.2.2.2.2.1.1 l1).bind fun o11 => some o11 else (if l2 = (8 : Int32) then (k_Fi_at x.2.2.2.2.1.1.1 l1 ((6 : Int32))).bind fun o13 => some o13 else (if l2 = (9 : Int32) then (k_Co_numberOf x.2.2.2.2.1.1.1.1 l1).bind fun o15 => some o15 else some ((-100 : Int32))))))
set_option maxRecDepth 20000 in
theorem w_EL_fighter_129 {X : zX} {c : zY} {q : Nat → Nat} {x : zsX} {l1 : Int32} {l2 : Int32} {out : Int32} (hX : Ok X zr_EL zb_EL_fighter 3 3 c) (hR : Rt X (some .int) (some (.int out)) (zwX c q x)) : k_EL_fighter_129 x l1 l2 = some out → Go X (zwX c q x) [(0, .ref ((q 17))), (1, .int l1), (2, .int l2)] 129 [] := by
  intro h
  rw [k_EL_fighter_129] at h
  refine g_iload_n (pc := 129) hX d_EL_fighter_129 rfl 2 rfl ?_
  by_cases c7 : l2 = (6 : Int32)
  · rw [if_pos c7] at h
    refine g_tswIn (pc := 130) (tgt := 160) (off := 30) hX d_EL_fighter_130 (6 : Int32) c7 (by decide) (by decide) rfl (by decide) ?_
    refine g_aload_n (pc := 160) hX d_EL_fighter_160 rfl 0 rfl ?_
    refine gf_EL_10 (pc := 161) (v := .ref ((q 12))) hX 3 rfl rfl d_EL_fighter_161 ?_
    refine gf_EL_59 (pc := 164) (v := .ref ((q 6))) hX 19 rfl rfl d_EL_fighter_164 ?_
    refine g_iload_n (pc := 167) hX d_EL_fighter_167 rfl 1 rfl ?_
    obtain ⟨o8, e8, h⟩ := zbind h
    refine g_cvI (pc := 168)  (st := []) (w' := (zwX c q x)) hX zk_Fi_canAct zs_Fi_canAct zL_EL_235 (c_Fi_canAct c q x.2.2.2.2.1.1.1 l1 e8) rfl rfl rfl rfl (sp_EL_Fi_7 c q x) (sp_EL_Fi_7 c q x).symm 13 3 rfl rfl rfl d_EL_fighter_168 ?_
    refine g_if_eq (pc := 171) (tgt := 178) hX d_EL_fighter_171 (by decide) h (fun c9 h => ?_) (fun c9 h => ?_)
    · refine g_iconst (pc := 178) hX d_EL_fighter_178 zc_0 ?_
      obtain rfl := Option.some.inj h
      exact g_iret (pc := 179) hX hR d_EL_fighter_179
    · refine g_iconst (pc := 174) hX d_EL_fighter_174 zc_1 ?_
      refine g_goto (pc := 175) (tgt := 179) hX d_EL_fighter_175 (by decide) ?_
      obtain rfl := Option.some.inj h
      exact g_iret (pc := 179) hX hR d_EL_fighter_179
  rw [if_neg c7] at h
  by_cases c10 : l2 = (7 : Int32)
  · rw [if_pos c10] at h
    refine g_tswIn (pc := 130) (tgt := 180) (off := 50) hX d_EL_fighter_130 (7 : Int32) c10 (by decide) (by decide) rfl (by decide) ?_
    refine g_aload_n (pc := 180) hX d_EL_fighter_180 rfl 0 rfl ?_
    refine gf_EL_10 (pc := 181) (v := .ref ((q 12))) hX 3 rfl rfl d_EL_fighter_181 ?_
    refine gf_EL_97 (pc := 184) (v := .ref ((q 9))) hX 19 rfl rfl d_EL_fighter_184 ?_
    refine g_iload_n (pc := 187) hX d_EL_fighter_187 rfl 1 rfl ?_
    obtain ⟨o11, e11, h⟩ := zbind h
    refine g_cvI (pc := 188)  (st := []) (w' := (zwX c q x)) hX zk_En_placeOf zs_En_placeOf zL_EL_238 (c_En_placeOf c q x.2.2.2.2.1.1 l1 e11) rfl rfl rfl rfl (sp_EL_En_7 c q x) (sp_EL_En_7 c q x).symm 16 2 rfl rfl rfl d_EL_fighter_188 ?_
    obtain rfl := Option.some.inj h
    exact g_iret (pc := 191) hX hR d_EL_fighter_191
  rw [if_neg c10] at h
  by_cases c12 : l2 = (8 : Int32)
  · rw [if_pos c12] at h
    refine g_tswIn (pc := 130) (tgt := 192) (off := 62) hX d_EL_fighter_130 (8 : Int32) c12 (by decide) (by decide) rfl (by decide) ?_
    refine g_aload_n (pc := 192) hX d_EL_fighter_192 rfl 0 rfl ?_
    refine gf_EL_10 (pc := 193) (v := .ref ((q 12))) hX 3 rfl rfl d_EL_fighter_193 ?_
    refine gf_EL_59 (pc := 196) (v := .ref ((q 6))) hX 19 rfl rfl d_EL_fighter_196 ?_
    refine g_iload_n (pc := 199) hX d_EL_fighter_199 rfl 1 rfl ?_
    refine g_bipush (pc := 200) hX d_EL_fighter_200 ze_6 ?_
    obtain ⟨o13, e13, h⟩ := zbind h
    refine g_cvI (pc := 202)  (st := []) (w' := (zwX c q x)) hX zk_Fi_at zs_Fi_at zL_EL_107 (c_Fi_at c q x.2.2.2.2.1.1.1 l1 ((6 : Int32)) e13) rfl rfl rfl rfl (sp_EL_Fi_7 c q x) (sp_EL_Fi_7 c q x).symm 13 3 rfl rfl rfl d_EL_fighter_202 ?_
    obtain rfl := Option.some.inj h
    exact g_iret (pc := 205) hX hR d_EL_fighter_205
  rw [if_neg c12] at h
  by_cases c14 : l2 = (9 : Int32)
  · rw [if_pos c14] at h
    refine g_tswIn (pc := 130) (tgt := 206) (off := 76) hX d_EL_fighter_130 (9 : Int32) c14 (by decide) (by decide) rfl (by decide) ?_
    refine g_aload_n (pc := 206) hX d_EL_fighter_206 rfl 0 rfl ?_
    refine gf_EL_10 (pc := 207) (v := .ref ((q 12))) hX 3 rfl rfl d_EL_fighter_207 ?_
    refine gf_EL_223 (pc := 210) (v := .ref ((q 2))) hX 19 rfl rfl d_EL_fighter_210 ?_
    refine g_iload_n (pc := 213) hX d_EL_fighter_213 rfl 1 rfl ?_
    obtain ⟨o15, e15, h⟩ := zbind h
    refine g_cvI (pc := 214)  (st := []) (w' := (zwX c q x)) hX zk_Co_numberOf zs_Co_numberOf zL_EL_241 (c_Co_numberOf c q x.2.2.2.2.1.1.1.1 l1 e15) rfl rfl rfl rfl (sp_EL_Co_7 c q x) (sp_EL_Co_7 c q x).symm 9 1 rfl rfl rfl d_EL_fighter_214 ?_
    obtain rfl := Option.some.inj h
    exact g_iret (pc := 217) hX hR d_EL_fighter_217
  rw [if_neg c14] at h
  refine g_tswOut (pc := 130) (tgt := 218) hX d_EL_fighter_130 (by have a7 := lv_neT c7 (a := 6) (by decide); have a10 := lv_neT c10 (a := 7) (by decide); have a12 := lv_neT c12 (a := 8) (by decide); have a14 := lv_neT c14 (a := 9) (by decide); omega) (by decide) ?_
  refine g_bipush (pc := 218) hX d_EL_fighter_218 ze_m100 ?_
  obtain rfl := Option.some.inj h
  exact g_iret (pc := 220) hX hR d_EL_fighter_220
def k_EL_fighter_101 (x : zsX) (l1 : Int32) (l2 : Int32) : Option (Int32) := (if l2 < (30 : Int32) then k_EL_fighter_129 x l1 l2 else (if l2 < (36 : Int32) then (k_Co_sumOf x.2.2.2.2.1.1.1.1 l1 ((l2 - (30 : Int32)))).bind fun o17 => some o17 else k_EL_fighter_129 x l1 l2))
set_option maxRecDepth 20000 in
theorem w_EL_fighter_101 {X : zX} {c : zY} {q : Nat → Nat} {x : zsX} {l1 : Int32} {l2 : Int32} {out : Int32} (hX : Ok X zr_EL zb_EL_fighter 3 3 c) (hR : Rt X (some .int) (some (.int out)) (zwX c q x)) : k_EL_fighter_101 x l1 l2 = some out → Go X (zwX c q x) [(0, .ref ((q 17))), (1, .int l1), (2, .int l2)] 101 [] := by
  intro h
  rw [k_EL_fighter_101] at h
  refine g_iload_n (pc := 101) hX d_EL_fighter_101 rfl 2 rfl ?_
  refine g_bipush (pc := 102) hX d_EL_fighter_102 ze_30 ?_
  refine g_icmp_lt (pc := 104) (tgt := 129) hX d_EL_fighter_104 (by decide) h (fun c6 h => ?_) (fun c6 h => ?_)
  · exact w_EL_fighter_129 hX hR h
  · refine g_iload_n (pc := 107) hX d_EL_fighter_107 rfl 2 rfl ?_
    refine g_bipush (pc := 108) hX d_EL_fighter_108 ze_36 ?_
    refine g_icmp_ge (pc := 110) (tgt := 129) hX d_EL_fighter_110 (by decide) h (fun c16 h => ?_) (fun c16 h => ?_)
    · exact w_EL_fighter_129 hX hR h
    · refine g_aload_n (pc := 113) hX d_EL_fighter_113 rfl 0 rfl ?_
      refine gf_EL_10 (pc := 114) (v := .ref ((q 12))) hX 3 rfl rfl d_EL_fighter_114 ?_
      refine gf_EL_223 (pc := 117) (v := .ref ((q 2))) hX 19 rfl rfl d_EL_fighter_117 ?_
      refine g_iload_n (pc := 120) hX d_EL_fighter_120 rfl 1 rfl ?_
      refine g_iload_n (pc := 121) hX d_EL_fighter_121 rfl 2 rfl ?_
      refine g_bipush (pc := 122) hX d_EL_fighter_122 ze_30 ?_
      refine g_isub (pc := 124) hX d_EL_fighter_124 ?_
      obtain ⟨o17, e17, h⟩ := zbind h
      refine g_cvI (pc := 125)  (st := []) (w' := (zwX c q x)) hX zk_Co_sumOf zs_Co_sumOf zL_EL_232 (c_Co_sumOf c q x.2.2.2.2.1.1.1.1 l1 ((l2 - (30 : Int32))) e17) rfl rfl rfl rfl (sp_EL_Co_7 c q x) (sp_EL_Co_7 c q x).symm 9 1 rfl rfl rfl d_EL_fighter_125 ?_
      obtain rfl := Option.some.inj h
      exact g_iret (pc := 128) hX hR d_EL_fighter_128
def k_EL_fighter_70 (x : zsX) (l1 : Int32) (l2 : Int32) : Option (Int32) := (if l2 < (20 : Int32) then k_EL_fighter_101 x l1 l2 else (if l2 < (23 : Int32) then (k_Fi_at x.2.2.2.2.1.1.1 l1 ((((10 : Int32) + l2) - (20 : Int32)))).bind fun o19 => some o19 else k_EL_fighter_101 x l1 l2))
set_option maxRecDepth 20000 in
theorem w_EL_fighter_70 {X : zX} {c : zY} {q : Nat → Nat} {x : zsX} {l1 : Int32} {l2 : Int32} {out : Int32} (hX : Ok X zr_EL zb_EL_fighter 3 3 c) (hR : Rt X (some .int) (some (.int out)) (zwX c q x)) : k_EL_fighter_70 x l1 l2 = some out → Go X (zwX c q x) [(0, .ref ((q 17))), (1, .int l1), (2, .int l2)] 70 [] := by
  intro h
  rw [k_EL_fighter_70] at h
  refine g_iload_n (pc := 70) hX d_EL_fighter_70 rfl 2 rfl ?_
  refine g_bipush (pc := 71) hX d_EL_fighter_71 ze_20 ?_
  refine g_icmp_lt (pc := 73) (tgt := 101) hX d_EL_fighter_73 (by decide) h (fun c5 h => ?_) (fun c5 h => ?_)
  · exact w_EL_fighter_101 hX hR h
  · refine g_iload_n (pc := 76) hX d_EL_fighter_76 rfl 2 rfl ?_
    refine g_bipush (pc := 77) hX d_EL_fighter_77 ze_23 ?_
    refine g_icmp_ge (pc := 79) (tgt := 101) hX d_EL_fighter_79 (by decide) h (fun c18 h => ?_) (fun c18 h => ?_)
    · exact w_EL_fighter_101 hX hR h
    · refine g_aload_n (pc := 82) hX d_EL_fighter_82 rfl 0 rfl ?_
      refine gf_EL_10 (pc := 83) (v := .ref ((q 12))) hX 3 rfl rfl d_EL_fighter_83 ?_
      refine gf_EL_59 (pc := 86) (v := .ref ((q 6))) hX 19 rfl rfl d_EL_fighter_86 ?_
      refine g_iload_n (pc := 89) hX d_EL_fighter_89 rfl 1 rfl ?_
      refine g_bipush (pc := 90) hX d_EL_fighter_90 ze_10 ?_
      refine g_iload_n (pc := 92) hX d_EL_fighter_92 rfl 2 rfl ?_
      refine g_iadd (pc := 93) hX d_EL_fighter_93 ?_
      refine g_bipush (pc := 94) hX d_EL_fighter_94 ze_20 ?_
      refine g_isub (pc := 96) hX d_EL_fighter_96 ?_
      obtain ⟨o19, e19, h⟩ := zbind h
      refine g_cvI (pc := 97)  (st := []) (w' := (zwX c q x)) hX zk_Fi_at zs_Fi_at zL_EL_107 (c_Fi_at c q x.2.2.2.2.1.1.1 l1 ((((10 : Int32) + l2) - (20 : Int32))) e19) rfl rfl rfl rfl (sp_EL_Fi_7 c q x) (sp_EL_Fi_7 c q x).symm 13 3 rfl rfl rfl d_EL_fighter_97 ?_
      obtain rfl := Option.some.inj h
      exact g_iret (pc := 100) hX hR d_EL_fighter_100
def k_EL_fighter_39 (x : zsX) (l1 : Int32) (l2 : Int32) : Option (Int32) := (if l2 < (10 : Int32) then k_EL_fighter_70 x l1 l2 else (if l2 < (13 : Int32) then (k_Fi_at x.2.2.2.2.1.1.1 l1 ((((7 : Int32) + l2) - (10 : Int32)))).bind fun o21 => some o21 else k_EL_fighter_70 x l1 l2))
set_option maxRecDepth 20000 in
theorem w_EL_fighter_39 {X : zX} {c : zY} {q : Nat → Nat} {x : zsX} {l1 : Int32} {l2 : Int32} {out : Int32} (hX : Ok X zr_EL zb_EL_fighter 3 3 c) (hR : Rt X (some .int) (some (.int out)) (zwX c q x)) : k_EL_fighter_39 x l1 l2 = some out → Go X (zwX c q x) [(0, .ref ((q 17))), (1, .int l1), (2, .int l2)] 39 [] := by
  intro h
  rw [k_EL_fighter_39] at h
  refine g_iload_n (pc := 39) hX d_EL_fighter_39 rfl 2 rfl ?_
  refine g_bipush (pc := 40) hX d_EL_fighter_40 ze_10 ?_
  refine g_icmp_lt (pc := 42) (tgt := 70) hX d_EL_fighter_42 (by decide) h (fun c4 h => ?_) (fun c4 h => ?_)
  · exact w_EL_fighter_70 hX hR h
  · refine g_iload_n (pc := 45) hX d_EL_fighter_45 rfl 2 rfl ?_
    refine g_bipush (pc := 46) hX d_EL_fighter_46 ze_13 ?_
    refine g_icmp_ge (pc := 48) (tgt := 70) hX d_EL_fighter_48 (by decide) h (fun c20 h => ?_) (fun c20 h => ?_)
    · exact w_EL_fighter_70 hX hR h
    · refine g_aload_n (pc := 51) hX d_EL_fighter_51 rfl 0 rfl ?_
      refine gf_EL_10 (pc := 52) (v := .ref ((q 12))) hX 3 rfl rfl d_EL_fighter_52 ?_
      refine gf_EL_59 (pc := 55) (v := .ref ((q 6))) hX 19 rfl rfl d_EL_fighter_55 ?_
      refine g_iload_n (pc := 58) hX d_EL_fighter_58 rfl 1 rfl ?_
      refine g_bipush (pc := 59) hX d_EL_fighter_59 ze_7 ?_
      refine g_iload_n (pc := 61) hX d_EL_fighter_61 rfl 2 rfl ?_
      refine g_iadd (pc := 62) hX d_EL_fighter_62 ?_
      refine g_bipush (pc := 63) hX d_EL_fighter_63 ze_10 ?_
      refine g_isub (pc := 65) hX d_EL_fighter_65 ?_
      obtain ⟨o21, e21, h⟩ := zbind h
      refine g_cvI (pc := 66)  (st := []) (w' := (zwX c q x)) hX zk_Fi_at zs_Fi_at zL_EL_107 (c_Fi_at c q x.2.2.2.2.1.1.1 l1 ((((7 : Int32) + l2) - (10 : Int32))) e21) rfl rfl rfl rfl (sp_EL_Fi_7 c q x) (sp_EL_Fi_7 c q x).symm 13 3 rfl rfl rfl d_EL_fighter_66 ?_
      obtain rfl := Option.some.inj h
      exact g_iret (pc := 69) hX hR d_EL_fighter_69
def k_EL_fighter (x : zsX) (l1 : Int32) (l2 : Int32) : Option (Int32) := (k_Fi_has x.2.2.2.2.1.1.1 l1).bind fun o1 => (if o1 = 0 then some ((-100 : Int32)) else (if l2 < 0 then k_EL_fighter_39 x l1 l2 else (if (5 : Int32) < l2 then k_EL_fighter_39 x l1 l2 else (k_Fi_at x.2.2.2.2.1.1.1 l1 l2).bind fun o23 => some o23)))
set_option maxRecDepth 20000 in
theorem c_EL_fighter (c : zY) (q : Nat → Nat) (x : zsX) (l1 : Int32) (l2 : Int32) {out : Int32} (h : k_EL_fighter x l1 l2 = some out) : KM zy_EL_fighter zb_EL_fighter 3 (some .int) 3 c [.ref ((q 17)), .int l1, .int l2] (zwX c q x) (zwX c q x) (some (.int out)) := zK_of zp_EL rfl (Nat.le_of_ble_eq_true rfl) (zq_EL c q _ _) (fun X hX hR => by
  show Go X (zwX c q x) [(0, .ref ((q 17))), (1, .int l1), (2, .int l2)] 0 []
  rw [k_EL_fighter] at h
  refine g_aload_n (pc := 0) hX d_EL_fighter_0 rfl 0 rfl ?_
  refine gf_EL_10 (pc := 1) (v := .ref ((q 12))) hX 3 rfl rfl d_EL_fighter_1 ?_
  refine gf_EL_59 (pc := 4) (v := .ref ((q 6))) hX 19 rfl rfl d_EL_fighter_4 ?_
  refine g_iload_n (pc := 7) hX d_EL_fighter_7 rfl 1 rfl ?_
  obtain ⟨o1, e1, h⟩ := zbind h
  refine g_cvI (pc := 8)  (st := []) (w' := (zwX c q x)) hX zk_Fi_has zs_Fi_has zL_EL_94 (c_Fi_has c q x.2.2.2.2.1.1.1 l1 e1) rfl rfl rfl rfl (sp_EL_Fi_7 c q x) (sp_EL_Fi_7 c q x).symm 13 3 rfl rfl rfl d_EL_fighter_8 ?_
  refine g_if_ne (pc := 11) (tgt := 17) hX d_EL_fighter_11 (by decide) h (fun c2 h => ?_) (fun c2 h => ?_)
  · refine g_iload_n (pc := 17) hX d_EL_fighter_17 rfl 2 rfl ?_
    refine g_if_lt (pc := 18) (tgt := 39) hX d_EL_fighter_18 (by decide) h (fun c3 h => ?_) (fun c3 h => ?_)
    · exact w_EL_fighter_39 hX hR h
    · refine g_iload_n (pc := 21) hX d_EL_fighter_21 rfl 2 rfl ?_
      refine g_iconst (pc := 22) hX d_EL_fighter_22 zc_5 ?_
      refine g_icmp_gt (pc := 23) (tgt := 39) hX d_EL_fighter_23 (by decide) h (fun c22 h => ?_) (fun c22 h => ?_)
      · exact w_EL_fighter_39 hX hR h
      · refine g_aload_n (pc := 26) hX d_EL_fighter_26 rfl 0 rfl ?_
        refine gf_EL_10 (pc := 27) (v := .ref ((q 12))) hX 3 rfl rfl d_EL_fighter_27 ?_
        refine gf_EL_59 (pc := 30) (v := .ref ((q 6))) hX 19 rfl rfl d_EL_fighter_30 ?_
        refine g_iload_n (pc := 33) hX d_EL_fighter_33 rfl 1 rfl ?_
        refine g_iload_n (pc := 34) hX d_EL_fighter_34 rfl 2 rfl ?_
        obtain ⟨o23, e23, h⟩ := zbind h
        refine g_cvI (pc := 35)  (st := []) (w' := (zwX c q x)) hX zk_Fi_at zs_Fi_at zL_EL_107 (c_Fi_at c q x.2.2.2.2.1.1.1 l1 l2 e23) rfl rfl rfl rfl (sp_EL_Fi_7 c q x) (sp_EL_Fi_7 c q x).symm 13 3 rfl rfl rfl d_EL_fighter_35 ?_
        obtain rfl := Option.some.inj h
        exact g_iret (pc := 38) hX hR d_EL_fighter_38
  · refine g_bipush (pc := 14) hX d_EL_fighter_14 ze_m100 ?_
    obtain rfl := Option.some.inj h
    exact g_iret (pc := 16) hX hR d_EL_fighter_16)
theorem d_EL_turn_0 : decode zb_EL_turn 0 = .ok (.iload_n 1, 1) := by decide +kernel
theorem d_EL_turn_1 : decode zb_EL_turn 1 = .ok (.ifCond .lt 14, 3) := by decide +kernel
theorem d_EL_turn_4 : decode zb_EL_turn 4 = .ok (.iload_n 1, 1) := by decide +kernel
theorem d_EL_turn_5 : decode zb_EL_turn 5 = .ok (.iconst 3, 1) := by decide +kernel
theorem d_EL_turn_6 : decode zb_EL_turn 6 = .ok (.if_icmp .le 11, 3) := by decide +kernel
theorem d_EL_turn_9 : decode zb_EL_turn 9 = .ok (.iload_n 1, 1) := by decide +kernel
theorem d_EL_turn_10 : decode zb_EL_turn 10 = .ok (.bipush 10, 2) := by decide +kernel
theorem d_EL_turn_12 : decode zb_EL_turn 12 = .ok (.if_icmp .ge 5, 3) := by decide +kernel
theorem d_EL_turn_15 : decode zb_EL_turn 15 = .ok (.iconst (-1), 1) := by decide +kernel
theorem d_EL_turn_16 : decode zb_EL_turn 16 = .ok (.ireturn, 1) := by decide +kernel
theorem d_EL_turn_17 : decode zb_EL_turn 17 = .ok (.iload_n 1, 1) := by decide +kernel
theorem d_EL_turn_18 : decode zb_EL_turn 18 = .ok (.ifCond .ne 14, 3) := by decide +kernel
theorem d_EL_turn_21 : decode zb_EL_turn 21 = .ok (.aload_n 0, 1) := by decide +kernel
theorem d_EL_turn_22 : decode zb_EL_turn 22 = .ok (.getfield 10, 3) := by decide +kernel
theorem d_EL_turn_25 : decode zb_EL_turn 25 = .ok (.getfield 97, 3) := by decide +kernel
theorem d_EL_turn_28 : decode zb_EL_turn 28 = .ok (.getfield 123, 3) := by decide +kernel
theorem d_EL_turn_31 : decode zb_EL_turn 31 = .ok (.ireturn, 1) := by decide +kernel
theorem d_EL_turn_32 : decode zb_EL_turn 32 = .ok (.aload_n 0, 1) := by decide +kernel
theorem d_EL_turn_33 : decode zb_EL_turn 33 = .ok (.getfield 10, 3) := by decide +kernel
theorem d_EL_turn_36 : decode zb_EL_turn 36 = .ok (.getfield 97, 3) := by decide +kernel
theorem d_EL_turn_39 : decode zb_EL_turn 39 = .ok (.invokevirtual 101, 3) := by decide +kernel
theorem d_EL_turn_42 : decode zb_EL_turn 42 = .ok (.ifCond .ne 6, 3) := by decide +kernel
theorem d_EL_turn_45 : decode zb_EL_turn 45 = .ok (.bipush (-5), 2) := by decide +kernel
theorem d_EL_turn_47 : decode zb_EL_turn 47 = .ok (.ireturn, 1) := by decide +kernel
theorem d_EL_turn_48 : decode zb_EL_turn 48 = .ok (.iload_n 1, 1) := by decide +kernel
theorem d_EL_turn_49 : decode zb_EL_turn 49 = .ok (.tableswitch 62 1 3 #[27, 38, 43], 27) := by decide +kernel
theorem d_EL_turn_76 : decode zb_EL_turn 76 = .ok (.aload_n 0, 1) := by decide +kernel
theorem d_EL_turn_77 : decode zb_EL_turn 77 = .ok (.getfield 10, 3) := by decide +kernel
theorem d_EL_turn_80 : decode zb_EL_turn 80 = .ok (.getfield 97, 3) := by decide +kernel
theorem d_EL_turn_83 : decode zb_EL_turn 83 = .ok (.invokevirtual 120, 3) := by decide +kernel
theorem d_EL_turn_86 : decode zb_EL_turn 86 = .ok (.ireturn, 1) := by decide +kernel
theorem d_EL_turn_87 : decode zb_EL_turn 87 = .ok (.aload_n 0, 1) := by decide +kernel
theorem d_EL_turn_88 : decode zb_EL_turn 88 = .ok (.invokevirtual 148, 3) := by decide +kernel
theorem d_EL_turn_91 : decode zb_EL_turn 91 = .ok (.ireturn, 1) := by decide +kernel
theorem d_EL_turn_92 : decode zb_EL_turn 92 = .ok (.aload_n 0, 1) := by decide +kernel
theorem d_EL_turn_93 : decode zb_EL_turn 93 = .ok (.getfield 10, 3) := by decide +kernel
theorem d_EL_turn_96 : decode zb_EL_turn 96 = .ok (.getfield 97, 3) := by decide +kernel
theorem d_EL_turn_99 : decode zb_EL_turn 99 = .ok (.getfield 244, 3) := by decide +kernel
theorem d_EL_turn_102 : decode zb_EL_turn 102 = .ok (.ifCond .eq 7, 3) := by decide +kernel
theorem d_EL_turn_105 : decode zb_EL_turn 105 = .ok (.iconst 1, 1) := by decide +kernel
theorem d_EL_turn_106 : decode zb_EL_turn 106 = .ok (.goto 4, 3) := by decide +kernel
theorem d_EL_turn_109 : decode zb_EL_turn 109 = .ok (.iconst 0, 1) := by decide +kernel
theorem d_EL_turn_110 : decode zb_EL_turn 110 = .ok (.ireturn, 1) := by decide +kernel
theorem d_EL_turn_111 : decode zb_EL_turn 111 = .ok (.aload_n 0, 1) := by decide +kernel
theorem d_EL_turn_112 : decode zb_EL_turn 112 = .ok (.getfield 10, 3) := by decide +kernel
theorem d_EL_turn_115 : decode zb_EL_turn 115 = .ok (.getfield 97, 3) := by decide +kernel
theorem d_EL_turn_118 : decode zb_EL_turn 118 = .ok (.iload_n 1, 1) := by decide +kernel
theorem d_EL_turn_119 : decode zb_EL_turn 119 = .ok (.bipush 10, 2) := by decide +kernel
theorem d_EL_turn_121 : decode zb_EL_turn 121 = .ok (.isub, 1) := by decide +kernel
theorem d_EL_turn_122 : decode zb_EL_turn 122 = .ok (.invokevirtual 247, 3) := by decide +kernel
theorem d_EL_turn_125 : decode zb_EL_turn 125 = .ok (.ireturn, 1) := by decide +kernel
def k_EL_turn_17 (x : zsX) (l1 : Int32) : Option (Int32) := (if l1 = 0 then some ((x.2.2.2.2.1.1.2.2 4)) else (k_En_isOn x.2.2.2.2.1.1).bind fun o4 => (if o4 = 0 then some ((-5 : Int32)) else (if l1 = (1 : Int32) then (k_En_current x.2.2.2.2.1.1).bind fun o7 => some o7 else (if l1 = (2 : Int32) then (k_EL_stepsLeft x).bind fun o9 => some o9 else (if l1 = (3 : Int32) then (if (x.2.2.2.2.1.1.2.2 7) = 0 then some ((0 : Int32)) else some ((1 : Int32))) else (k_En_atPlace x.2.2.2.2.1.1 ((l1 - (10 : Int32)))).bind fun o12 => some o12)))))
set_option maxRecDepth 20000 in
theorem w_EL_turn_17 {X : zX} {c : zY} {q : Nat → Nat} {x : zsX} {l1 : Int32} {out : Int32} (hX : Ok X zr_EL zb_EL_turn 2 3 c) (hR : Rt X (some .int) (some (.int out)) (zwX c q x)) : k_EL_turn_17 x l1 = some out → Go X (zwX c q x) [(0, .ref ((q 17))), (1, .int l1)] 17 [] := by
  intro h
  rw [k_EL_turn_17] at h
  refine g_iload_n (pc := 17) hX d_EL_turn_17 rfl 1 rfl ?_
  refine g_if_ne (pc := 18) (tgt := 32) hX d_EL_turn_18 (by decide) h (fun c3 h => ?_) (fun c3 h => ?_)
  · refine g_aload_n (pc := 32) hX d_EL_turn_32 rfl 0 rfl ?_
    refine gf_EL_10 (pc := 33) (v := .ref ((q 12))) hX 3 rfl rfl d_EL_turn_33 ?_
    refine gf_EL_97 (pc := 36) (v := .ref ((q 9))) hX 19 rfl rfl d_EL_turn_36 ?_
    obtain ⟨o4, e4, h⟩ := zbind h
    refine g_cvI (pc := 39)  (st := []) (w' := (zwX c q x)) hX zk_En_isOn zs_En_isOn zL_EL_101 (c_En_isOn c q x.2.2.2.2.1.1 e4) rfl rfl rfl rfl (sp_EL_En_7 c q x) (sp_EL_En_7 c q x).symm 16 2 rfl rfl rfl d_EL_turn_39 ?_
    refine g_if_ne (pc := 42) (tgt := 48) hX d_EL_turn_42 (by decide) h (fun c5 h => ?_) (fun c5 h => ?_)
    · refine g_iload_n (pc := 48) hX d_EL_turn_48 rfl 1 rfl ?_
      by_cases c6 : l1 = (1 : Int32)
      · rw [if_pos c6] at h
        refine g_tswIn (pc := 49) (tgt := 76) (off := 27) hX d_EL_turn_49 (1 : Int32) c6 (by decide) (by decide) rfl (by decide) ?_
        refine g_aload_n (pc := 76) hX d_EL_turn_76 rfl 0 rfl ?_
        refine gf_EL_10 (pc := 77) (v := .ref ((q 12))) hX 3 rfl rfl d_EL_turn_77 ?_
        refine gf_EL_97 (pc := 80) (v := .ref ((q 9))) hX 19 rfl rfl d_EL_turn_80 ?_
        obtain ⟨o7, e7, h⟩ := zbind h
        refine g_cvI (pc := 83)  (st := []) (w' := (zwX c q x)) hX zk_En_current zs_En_current zL_EL_120 (c_En_current c q x.2.2.2.2.1.1 e7) rfl rfl rfl rfl (sp_EL_En_7 c q x) (sp_EL_En_7 c q x).symm 16 2 rfl rfl rfl d_EL_turn_83 ?_
        obtain rfl := Option.some.inj h
        exact g_iret (pc := 86) hX hR d_EL_turn_86
      rw [if_neg c6] at h
      by_cases c8 : l1 = (2 : Int32)
      · rw [if_pos c8] at h
        refine g_tswIn (pc := 49) (tgt := 87) (off := 38) hX d_EL_turn_49 (2 : Int32) c8 (by decide) (by decide) rfl (by decide) ?_
        refine g_aload_n (pc := 87) hX d_EL_turn_87 rfl 0 rfl ?_
        obtain ⟨o9, e9, h⟩ := zbind h
        refine g_cvI (pc := 88) (w1 := []) (w2 := []) (st := []) (w' := (zwX c q x)) hX zk_EL_stepsLeft zs_EL_stepsLeft zL_EL_148 (c_EL_stepsLeft c q x e9) rfl rfl rfl rfl (zself _) (zself _).symm 3 9 rfl rfl rfl d_EL_turn_88 ?_
        obtain rfl := Option.some.inj h
        exact g_iret (pc := 91) hX hR d_EL_turn_91
      rw [if_neg c8] at h
      by_cases c10 : l1 = (3 : Int32)
      · rw [if_pos c10] at h
        refine g_tswIn (pc := 49) (tgt := 92) (off := 43) hX d_EL_turn_49 (3 : Int32) c10 (by decide) (by decide) rfl (by decide) ?_
        refine g_aload_n (pc := 92) hX d_EL_turn_92 rfl 0 rfl ?_
        refine gf_EL_10 (pc := 93) (v := .ref ((q 12))) hX 3 rfl rfl d_EL_turn_93 ?_
        refine gf_EL_97 (pc := 96) (v := .ref ((q 9))) hX 19 rfl rfl d_EL_turn_96 ?_
        refine gf_EL_244 (pc := 99) (v := .int ((x.2.2.2.2.1.1.2.2 7))) hX 16 rfl rfl d_EL_turn_99 ?_
        refine g_if_eq (pc := 102) (tgt := 109) hX d_EL_turn_102 (by decide) h (fun c11 h => ?_) (fun c11 h => ?_)
        · refine g_iconst (pc := 109) hX d_EL_turn_109 zc_0 ?_
          obtain rfl := Option.some.inj h
          exact g_iret (pc := 110) hX hR d_EL_turn_110
        · refine g_iconst (pc := 105) hX d_EL_turn_105 zc_1 ?_
          refine g_goto (pc := 106) (tgt := 110) hX d_EL_turn_106 (by decide) ?_
          obtain rfl := Option.some.inj h
          exact g_iret (pc := 110) hX hR d_EL_turn_110
      rw [if_neg c10] at h
      refine g_tswOut (pc := 49) (tgt := 111) hX d_EL_turn_49 (by have a6 := lv_neT c6 (a := 1) (by decide); have a8 := lv_neT c8 (a := 2) (by decide); have a10 := lv_neT c10 (a := 3) (by decide); omega) (by decide) ?_
      refine g_aload_n (pc := 111) hX d_EL_turn_111 rfl 0 rfl ?_
      refine gf_EL_10 (pc := 112) (v := .ref ((q 12))) hX 3 rfl rfl d_EL_turn_112 ?_
      refine gf_EL_97 (pc := 115) (v := .ref ((q 9))) hX 19 rfl rfl d_EL_turn_115 ?_
      refine g_iload_n (pc := 118) hX d_EL_turn_118 rfl 1 rfl ?_
      refine g_bipush (pc := 119) hX d_EL_turn_119 ze_10 ?_
      refine g_isub (pc := 121) hX d_EL_turn_121 ?_
      obtain ⟨o12, e12, h⟩ := zbind h
      refine g_cvI (pc := 122)  (st := []) (w' := (zwX c q x)) hX zk_En_atPlace zs_En_atPlace zL_EL_247 (c_En_atPlace c q x.2.2.2.2.1.1 ((l1 - (10 : Int32))) e12) rfl rfl rfl rfl (sp_EL_En_7 c q x) (sp_EL_En_7 c q x).symm 16 2 rfl rfl rfl d_EL_turn_122 ?_
      obtain rfl := Option.some.inj h
      exact g_iret (pc := 125) hX hR d_EL_turn_125
    · refine g_bipush (pc := 45) hX d_EL_turn_45 ze_m5 ?_
      obtain rfl := Option.some.inj h
      exact g_iret (pc := 47) hX hR d_EL_turn_47
  · refine g_aload_n (pc := 21) hX d_EL_turn_21 rfl 0 rfl ?_
    refine gf_EL_10 (pc := 22) (v := .ref ((q 12))) hX 3 rfl rfl d_EL_turn_22 ?_
    refine gf_EL_97 (pc := 25) (v := .ref ((q 9))) hX 19 rfl rfl d_EL_turn_25 ?_
    refine gf_EL_123 (pc := 28) (v := .int ((x.2.2.2.2.1.1.2.2 4))) hX 16 rfl rfl d_EL_turn_28 ?_
    obtain rfl := Option.some.inj h
    exact g_iret (pc := 31) hX hR d_EL_turn_31
def k_EL_turn (x : zsX) (l1 : Int32) : Option (Int32) := (if l1 < 0 then some ((-1 : Int32)) else (if (3 : Int32) < l1 then (if l1 < (10 : Int32) then some ((-1 : Int32)) else k_EL_turn_17 x l1) else k_EL_turn_17 x l1))
set_option maxRecDepth 20000 in
theorem c_EL_turn (c : zY) (q : Nat → Nat) (x : zsX) (l1 : Int32) {out : Int32} (h : k_EL_turn x l1 = some out) : KM zy_EL_turn zb_EL_turn 2 (some .int) 3 c [.ref ((q 17)), .int l1] (zwX c q x) (zwX c q x) (some (.int out)) := zK_of zp_EL rfl (Nat.le_of_ble_eq_true rfl) (zq_EL c q _ _) (fun X hX hR => by
  show Go X (zwX c q x) [(0, .ref ((q 17))), (1, .int l1)] 0 []
  rw [k_EL_turn] at h
  refine g_iload_n (pc := 0) hX d_EL_turn_0 rfl 1 rfl ?_
  refine g_if_lt (pc := 1) (tgt := 15) hX d_EL_turn_1 (by decide) h (fun c1 h => ?_) (fun c1 h => ?_)
  · refine g_iconst (pc := 15) hX d_EL_turn_15 zc_m1 ?_
    obtain rfl := Option.some.inj h
    exact g_iret (pc := 16) hX hR d_EL_turn_16
  · refine g_iload_n (pc := 4) hX d_EL_turn_4 rfl 1 rfl ?_
    refine g_iconst (pc := 5) hX d_EL_turn_5 zc_3 ?_
    refine g_icmp_le (pc := 6) (tgt := 17) hX d_EL_turn_6 (by decide) h (fun c2 h => ?_) (fun c2 h => ?_)
    · exact w_EL_turn_17 hX hR h
    · refine g_iload_n (pc := 9) hX d_EL_turn_9 rfl 1 rfl ?_
      refine g_bipush (pc := 10) hX d_EL_turn_10 ze_10 ?_
      refine g_icmp_ge (pc := 12) (tgt := 17) hX d_EL_turn_12 (by decide) h (fun c13 h => ?_) (fun c13 h => ?_)
      · exact w_EL_turn_17 hX hR h
      · refine g_iconst (pc := 15) hX d_EL_turn_15 zc_m1 ?_
        obtain rfl := Option.some.inj h
        exact g_iret (pc := 16) hX hR d_EL_turn_16)
theorem d_EL_condition_0 : decode zb_EL_condition 0 = .ok (.iload_n 1, 1) := by decide +kernel
theorem d_EL_condition_1 : decode zb_EL_condition 1 = .ok (.iconst (-1), 1) := by decide +kernel
theorem d_EL_condition_2 : decode zb_EL_condition 2 = .ok (.if_icmp .ne 14, 3) := by decide +kernel
theorem d_EL_condition_5 : decode zb_EL_condition 5 = .ok (.aload_n 0, 1) := by decide +kernel
theorem d_EL_condition_6 : decode zb_EL_condition 6 = .ok (.getfield 10, 3) := by decide +kernel
theorem d_EL_condition_9 : decode zb_EL_condition 9 = .ok (.getfield 223, 3) := by decide +kernel
theorem d_EL_condition_12 : decode zb_EL_condition 12 = .ok (.invokevirtual 250, 3) := by decide +kernel
theorem d_EL_condition_15 : decode zb_EL_condition 15 = .ok (.ireturn, 1) := by decide +kernel
theorem d_EL_condition_16 : decode zb_EL_condition 16 = .ok (.aload_n 0, 1) := by decide +kernel
theorem d_EL_condition_17 : decode zb_EL_condition 17 = .ok (.getfield 10, 3) := by decide +kernel
theorem d_EL_condition_20 : decode zb_EL_condition 20 = .ok (.getfield 223, 3) := by decide +kernel
theorem d_EL_condition_23 : decode zb_EL_condition 23 = .ok (.iload_n 1, 1) := by decide +kernel
theorem d_EL_condition_24 : decode zb_EL_condition 24 = .ok (.invokevirtual 251, 3) := by decide +kernel
theorem d_EL_condition_27 : decode zb_EL_condition 27 = .ok (.ifCond .eq 13, 3) := by decide +kernel
theorem d_EL_condition_30 : decode zb_EL_condition 30 = .ok (.iload_n 2, 1) := by decide +kernel
theorem d_EL_condition_31 : decode zb_EL_condition 31 = .ok (.ifCond .lt 9, 3) := by decide +kernel
theorem d_EL_condition_34 : decode zb_EL_condition 34 = .ok (.iload_n 2, 1) := by decide +kernel
theorem d_EL_condition_35 : decode zb_EL_condition 35 = .ok (.bipush 6, 2) := by decide +kernel
theorem d_EL_condition_37 : decode zb_EL_condition 37 = .ok (.if_icmp .lt 5, 3) := by decide +kernel
theorem d_EL_condition_40 : decode zb_EL_condition 40 = .ok (.iconst (-1), 1) := by decide +kernel
theorem d_EL_condition_41 : decode zb_EL_condition 41 = .ok (.ireturn, 1) := by decide +kernel
theorem d_EL_condition_42 : decode zb_EL_condition 42 = .ok (.aload_n 0, 1) := by decide +kernel
theorem d_EL_condition_43 : decode zb_EL_condition 43 = .ok (.getfield 10, 3) := by decide +kernel
theorem d_EL_condition_46 : decode zb_EL_condition 46 = .ok (.getfield 223, 3) := by decide +kernel
theorem d_EL_condition_49 : decode zb_EL_condition 49 = .ok (.iload_n 1, 1) := by decide +kernel
theorem d_EL_condition_50 : decode zb_EL_condition 50 = .ok (.iload_n 2, 1) := by decide +kernel
theorem d_EL_condition_51 : decode zb_EL_condition 51 = .ok (.invokevirtual 252, 3) := by decide +kernel
theorem d_EL_condition_54 : decode zb_EL_condition 54 = .ok (.ireturn, 1) := by decide +kernel
def k_EL_condition (x : zsX) (l1 : Int32) (l2 : Int32) : Option (Int32) := (if l1 = (-1 : Int32) then (k_Co_size x.2.2.2.2.1.1.1.1).bind fun o7 => some o7 else (k_Co_has x.2.2.2.2.1.1.1.1 l1).bind fun o2 => (if o2 = 0 then some ((-1 : Int32)) else (if l2 < 0 then some ((-1 : Int32)) else (if l2 < (6 : Int32) then (k_Co_at x.2.2.2.2.1.1.1.1 l1 l2).bind fun o6 => some o6 else some ((-1 : Int32))))))
set_option maxRecDepth 20000 in
theorem c_EL_condition (c : zY) (q : Nat → Nat) (x : zsX) (l1 : Int32) (l2 : Int32) {out : Int32} (h : k_EL_condition x l1 l2 = some out) : KM zy_EL_condition zb_EL_condition 3 (some .int) 2 c [.ref ((q 17)), .int l1, .int l2] (zwX c q x) (zwX c q x) (some (.int out)) := zK_of zp_EL rfl (Nat.le_of_ble_eq_true rfl) (zq_EL c q _ _) (fun X hX hR => by
  show Go X (zwX c q x) [(0, .ref ((q 17))), (1, .int l1), (2, .int l2)] 0 []
  rw [k_EL_condition] at h
  refine g_iload_n (pc := 0) hX d_EL_condition_0 rfl 1 rfl ?_
  refine g_iconst (pc := 1) hX d_EL_condition_1 zc_m1 ?_
  refine g_icmp_ne (pc := 2) (tgt := 16) hX d_EL_condition_2 (by decide) h (fun c1 h => ?_) (fun c1 h => ?_)
  · refine g_aload_n (pc := 16) hX d_EL_condition_16 rfl 0 rfl ?_
    refine gf_EL_10 (pc := 17) (v := .ref ((q 12))) hX 3 rfl rfl d_EL_condition_17 ?_
    refine gf_EL_223 (pc := 20) (v := .ref ((q 2))) hX 19 rfl rfl d_EL_condition_20 ?_
    refine g_iload_n (pc := 23) hX d_EL_condition_23 rfl 1 rfl ?_
    obtain ⟨o2, e2, h⟩ := zbind h
    refine g_cvI (pc := 24)  (st := []) (w' := (zwX c q x)) hX zk_Co_has zs_Co_has zL_EL_251 (c_Co_has c q x.2.2.2.2.1.1.1.1 l1 e2) rfl rfl rfl rfl (sp_EL_Co_7 c q x) (sp_EL_Co_7 c q x).symm 9 1 rfl rfl rfl d_EL_condition_24 ?_
    refine g_if_eq (pc := 27) (tgt := 40) hX d_EL_condition_27 (by decide) h (fun c3 h => ?_) (fun c3 h => ?_)
    · refine g_iconst (pc := 40) hX d_EL_condition_40 zc_m1 ?_
      obtain rfl := Option.some.inj h
      exact g_iret (pc := 41) hX hR d_EL_condition_41
    · refine g_iload_n (pc := 30) hX d_EL_condition_30 rfl 2 rfl ?_
      refine g_if_lt (pc := 31) (tgt := 40) hX d_EL_condition_31 (by decide) h (fun c4 h => ?_) (fun c4 h => ?_)
      · refine g_iconst (pc := 40) hX d_EL_condition_40 zc_m1 ?_
        obtain rfl := Option.some.inj h
        exact g_iret (pc := 41) hX hR d_EL_condition_41
      · refine g_iload_n (pc := 34) hX d_EL_condition_34 rfl 2 rfl ?_
        refine g_bipush (pc := 35) hX d_EL_condition_35 ze_6 ?_
        refine g_icmp_lt (pc := 37) (tgt := 42) hX d_EL_condition_37 (by decide) h (fun c5 h => ?_) (fun c5 h => ?_)
        · refine g_aload_n (pc := 42) hX d_EL_condition_42 rfl 0 rfl ?_
          refine gf_EL_10 (pc := 43) (v := .ref ((q 12))) hX 3 rfl rfl d_EL_condition_43 ?_
          refine gf_EL_223 (pc := 46) (v := .ref ((q 2))) hX 19 rfl rfl d_EL_condition_46 ?_
          refine g_iload_n (pc := 49) hX d_EL_condition_49 rfl 1 rfl ?_
          refine g_iload_n (pc := 50) hX d_EL_condition_50 rfl 2 rfl ?_
          obtain ⟨o6, e6, h⟩ := zbind h
          refine g_cvI (pc := 51)  (st := []) (w' := (zwX c q x)) hX zk_Co_at zs_Co_at zL_EL_252 (c_Co_at c q x.2.2.2.2.1.1.1.1 l1 l2 e6) rfl rfl rfl rfl (sp_EL_Co_7 c q x) (sp_EL_Co_7 c q x).symm 9 1 rfl rfl rfl d_EL_condition_51 ?_
          obtain rfl := Option.some.inj h
          exact g_iret (pc := 54) hX hR d_EL_condition_54
        · refine g_iconst (pc := 40) hX d_EL_condition_40 zc_m1 ?_
          obtain rfl := Option.some.inj h
          exact g_iret (pc := 41) hX hR d_EL_condition_41
  · refine g_aload_n (pc := 5) hX d_EL_condition_5 rfl 0 rfl ?_
    refine gf_EL_10 (pc := 6) (v := .ref ((q 12))) hX 3 rfl rfl d_EL_condition_6 ?_
    refine gf_EL_223 (pc := 9) (v := .ref ((q 2))) hX 19 rfl rfl d_EL_condition_9 ?_
    obtain ⟨o7, e7, h⟩ := zbind h
    refine g_cvI (pc := 12)  (st := []) (w' := (zwX c q x)) hX zk_Co_size zs_Co_size zL_EL_250 (c_Co_size c q x.2.2.2.2.1.1.1.1 e7) rfl rfl rfl rfl (sp_EL_Co_7 c q x) (sp_EL_Co_7 c q x).symm 9 1 rfl rfl rfl d_EL_condition_12 ?_
    obtain rfl := Option.some.inj h
    exact g_iret (pc := 15) hX hR d_EL_condition_15)
theorem d_EL_area_0 : decode zb_EL_area 0 = .ok (.iload_n 1, 1) := by decide +kernel
theorem d_EL_area_1 : decode zb_EL_area 1 = .ok (.ifCond .lt 22, 3) := by decide +kernel
theorem d_EL_area_4 : decode zb_EL_area 4 = .ok (.iload_n 1, 1) := by decide +kernel
theorem d_EL_area_5 : decode zb_EL_area 5 = .ok (.iconst 4, 1) := by decide +kernel
theorem d_EL_area_6 : decode zb_EL_area 6 = .ok (.if_icmp .ge 17, 3) := by decide +kernel
theorem d_EL_area_9 : decode zb_EL_area 9 = .ok (.iload_n 2, 1) := by decide +kernel
theorem d_EL_area_10 : decode zb_EL_area 10 = .ok (.invokestatic 48, 3) := by decide +kernel
theorem d_EL_area_13 : decode zb_EL_area 13 = .ok (.ifCond .eq 10, 3) := by decide +kernel
theorem d_EL_area_16 : decode zb_EL_area 16 = .ok (.iload_n 3, 1) := by decide +kernel
theorem d_EL_area_17 : decode zb_EL_area 17 = .ok (.invokestatic 197, 3) := by decide +kernel
theorem d_EL_area_20 : decode zb_EL_area 20 = .ok (.ifCond .ne 5, 3) := by decide +kernel
theorem d_EL_area_23 : decode zb_EL_area 23 = .ok (.iconst (-1), 1) := by decide +kernel
theorem d_EL_area_24 : decode zb_EL_area 24 = .ok (.ireturn, 1) := by decide +kernel
theorem d_EL_area_25 : decode zb_EL_area 25 = .ok (.iload 4, 2) := by decide +kernel
theorem d_EL_area_27 : decode zb_EL_area 27 = .ok (.ifCond .lt 15, 3) := by decide +kernel
theorem d_EL_area_30 : decode zb_EL_area 30 = .ok (.iload 4, 2) := by decide +kernel
theorem d_EL_area_32 : decode zb_EL_area 32 = .ok (.iconst 5, 1) := by decide +kernel
theorem d_EL_area_33 : decode zb_EL_area 33 = .ok (.if_icmp .gt 9, 3) := by decide +kernel
theorem d_EL_area_36 : decode zb_EL_area 36 = .ok (.iload 5, 2) := by decide +kernel
theorem d_EL_area_38 : decode zb_EL_area 38 = .ok (.iconst (-1), 1) := by decide +kernel
theorem d_EL_area_39 : decode zb_EL_area 39 = .ok (.if_icmp .ge 6, 3) := by decide +kernel
theorem d_EL_area_42 : decode zb_EL_area 42 = .ok (.bipush (-2), 2) := by decide +kernel
theorem d_EL_area_44 : decode zb_EL_area 44 = .ok (.ireturn, 1) := by decide +kernel
theorem d_EL_area_45 : decode zb_EL_area 45 = .ok (.iconst 0, 1) := by decide +kernel
theorem d_EL_area_46 : decode zb_EL_area 46 = .ok (.istore 6, 2) := by decide +kernel
theorem d_EL_area_48 : decode zb_EL_area 48 = .ok (.iconst 0, 1) := by decide +kernel
theorem d_EL_area_49 : decode zb_EL_area 49 = .ok (.istore 7, 2) := by decide +kernel
theorem d_EL_area_51 : decode zb_EL_area 51 = .ok (.iload 7, 2) := by decide +kernel
theorem d_EL_area_53 : decode zb_EL_area 53 = .ok (.bipush 100, 2) := by decide +kernel
theorem d_EL_area_55 : decode zb_EL_area 55 = .ok (.if_icmp .ge 35, 3) := by decide +kernel
theorem d_EL_area_58 : decode zb_EL_area 58 = .ok (.iload_n 1, 1) := by decide +kernel
theorem d_EL_area_59 : decode zb_EL_area 59 = .ok (.iload_n 2, 1) := by decide +kernel
theorem d_EL_area_60 : decode zb_EL_area 60 = .ok (.iload_n 3, 1) := by decide +kernel
theorem d_EL_area_61 : decode zb_EL_area 61 = .ok (.iload 4, 2) := by decide +kernel
theorem d_EL_area_63 : decode zb_EL_area 63 = .ok (.iload 7, 2) := by decide +kernel
theorem d_EL_area_65 : decode zb_EL_area 65 = .ok (.invokestatic 253, 3) := by decide +kernel
theorem d_EL_area_68 : decode zb_EL_area 68 = .ok (.ifCond .eq 16, 3) := by decide +kernel
theorem d_EL_area_71 : decode zb_EL_area 71 = .ok (.iload 6, 2) := by decide +kernel
theorem d_EL_area_73 : decode zb_EL_area 73 = .ok (.iload 5, 2) := by decide +kernel
theorem d_EL_area_75 : decode zb_EL_area 75 = .ok (.if_icmp .ne 6, 3) := by decide +kernel
theorem d_EL_area_78 : decode zb_EL_area 78 = .ok (.iload 7, 2) := by decide +kernel
theorem d_EL_area_80 : decode zb_EL_area 80 = .ok (.ireturn, 1) := by decide +kernel
theorem d_EL_area_81 : decode zb_EL_area 81 = .ok (.iinc 6 1, 3) := by decide +kernel
theorem d_EL_area_84 : decode zb_EL_area 84 = .ok (.iinc 7 1, 3) := by decide +kernel
theorem d_EL_area_87 : decode zb_EL_area 87 = .ok (.goto (-36), 3) := by decide +kernel
theorem d_EL_area_90 : decode zb_EL_area 90 = .ok (.iload 5, 2) := by decide +kernel
theorem d_EL_area_92 : decode zb_EL_area 92 = .ok (.iconst (-1), 1) := by decide +kernel
theorem d_EL_area_93 : decode zb_EL_area 93 = .ok (.if_icmp .ne 8, 3) := by decide +kernel
theorem d_EL_area_96 : decode zb_EL_area 96 = .ok (.iload 6, 2) := by decide +kernel
theorem d_EL_area_98 : decode zb_EL_area 98 = .ok (.goto 5, 3) := by decide +kernel
theorem d_EL_area_101 : decode zb_EL_area 101 = .ok (.bipush (-5), 2) := by decide +kernel
theorem d_EL_area_103 : decode zb_EL_area 103 = .ok (.ireturn, 1) := by decide +kernel
def k_EL_area_51 (x : zsX) (l1 : Int32) (l2 : Int32) (l3 : Int32) (l4 : Int32) (l5 : Int32) : Nat → Int32 → Int32 → Option (Int32)
  | 0, _, _ => none
  | fu + 1, l6, l7 => (if l7 < (100 : Int32) then (k_EL_isInArea l1 l2 l3 l4 l7).bind fun o12 => (if o12 = 0 then k_EL_area_51 x l1 l2 l3 l4 l5 fu l6 ((l7 + (1 : Int32))) else (if l6 = l5 then some l7 else k_EL_area_51 x l1 l2 l3 l4 l5 fu ((l6 + (1 : Int32))) ((l7 + (1 : Int32))))) else (if l5 = (-1 : Int32) then some l6 else some ((-5 : Int32))))
set_option maxRecDepth 20000 in
theorem w_EL_area_51 {X : zX} {c : zY} {q : Nat → Nat} {x : zsX} {l1 : Int32} {l2 : Int32} {l3 : Int32} {l4 : Int32} {l5 : Int32} {out : Int32} (hX : Ok X zr_EL zb_EL_area 8 2 c) (hR : Rt X (some .int) (some (.int out)) (zwX c q x)) : ∀ (fu : Nat) (l6 : Int32) (l7 : Int32), k_EL_area_51 x l1 l2 l3 l4 l5 fu l6 l7 = some out → Go X (zwX c q x) [(1, .int l1), (2, .int l2), (3, .int l3), (4, .int l4), (5, .int l5), (6, .int l6), (7, .int l7)] 51 [] := by
  intro fu
  induction fu with
  | zero => intro l6 l7 h; rw [k_EL_area_51] at h; cases h
  | succ fu ih =>
    intro l6 l7 h
    rw [k_EL_area_51] at h
    refine g_iload (pc := 51) hX d_EL_area_51 6 rfl ?_
    refine g_bipush (pc := 53) hX d_EL_area_53 ze_100 ?_
    refine g_icmp_ge (pc := 55) (tgt := 90) hX d_EL_area_55 (by decide) h (fun c10 h => ?_) (fun c10 h => ?_)
    · refine g_iload (pc := 90) hX d_EL_area_90 4 rfl ?_
      refine g_iconst (pc := 92) hX d_EL_area_92 zc_m1 ?_
      refine g_icmp_ne (pc := 93) (tgt := 101) hX d_EL_area_93 (by decide) h (fun c11 h => ?_) (fun c11 h => ?_)
      · refine g_bipush (pc := 101) hX d_EL_area_101 ze_m5 ?_
        obtain rfl := Option.some.inj h
        exact g_iret (pc := 103) hX hR d_EL_area_103
      · refine g_iload (pc := 96) hX d_EL_area_96 5 rfl ?_
        refine g_goto (pc := 98) (tgt := 103) hX d_EL_area_98 (by decide) ?_
        obtain rfl := Option.some.inj h
        exact g_iret (pc := 103) hX hR d_EL_area_103
    · refine g_iload_n (pc := 58) hX d_EL_area_58 rfl 0 rfl ?_
      refine g_iload_n (pc := 59) hX d_EL_area_59 rfl 1 rfl ?_
      refine g_iload_n (pc := 60) hX d_EL_area_60 rfl 2 rfl ?_
      refine g_iload (pc := 61) hX d_EL_area_61 3 rfl ?_
      refine g_iload (pc := 63) hX d_EL_area_63 6 rfl ?_
      obtain ⟨o12, e12, h⟩ := zbind h
      refine g_csI (pc := 65) (st := []) hX zk_EL_isInArea zL_EL_253 (c_EL_isInArea c l1 l2 l3 l4 l7 e12) rfl rfl rfl rfl rfl d_EL_area_65 ?_
      refine g_if_eq (pc := 68) (tgt := 84) hX d_EL_area_68 (by decide) h (fun c13 h => ?_) (fun c13 h => ?_)
      · refine g_iinc (pc := 84) (q := 6) (L' := [(7, .int ((l7 + (1 : Int32)))), (1, .int l1), (2, .int l2), (3, .int l3), (4, .int l4), (5, .int l5), (6, .int l6)]) hX d_EL_area_84 rfl zc_1 rfl rfl ?_
        refine g_goto (pc := 87) (tgt := 51) hX d_EL_area_87 (by decide) ?_
        refine g_ls (L' := [(1, .int l1), (2, .int l2), (3, .int l3), (4, .int l4), (5, .int l5), (6, .int l6), (7, .int ((l7 + (1 : Int32))))]) [1, 2, 3, 4, 5, 6, 0] rfl ?_
        exact ih _ _ h
      · refine g_iload (pc := 71) hX d_EL_area_71 5 rfl ?_
        refine g_iload (pc := 73) hX d_EL_area_73 4 rfl ?_
        refine g_icmp_ne (pc := 75) (tgt := 81) hX d_EL_area_75 (by decide) h (fun c14 h => ?_) (fun c14 h => ?_)
        · refine g_iinc (pc := 81) (q := 5) (L' := [(6, .int ((l6 + (1 : Int32)))), (1, .int l1), (2, .int l2), (3, .int l3), (4, .int l4), (5, .int l5), (7, .int l7)]) hX d_EL_area_81 rfl zc_1 rfl rfl ?_
          refine g_iinc (pc := 84) (q := 6) (L' := [(7, .int ((l7 + (1 : Int32)))), (6, .int ((l6 + (1 : Int32)))), (1, .int l1), (2, .int l2), (3, .int l3), (4, .int l4), (5, .int l5)]) hX d_EL_area_84 rfl zc_1 rfl rfl ?_
          refine g_goto (pc := 87) (tgt := 51) hX d_EL_area_87 (by decide) ?_
          refine g_ls (L' := [(1, .int l1), (2, .int l2), (3, .int l3), (4, .int l4), (5, .int l5), (6, .int ((l6 + (1 : Int32)))), (7, .int ((l7 + (1 : Int32))))]) [2, 3, 4, 5, 6, 1, 0] rfl ?_
          exact ih _ _ h
        · refine g_iload (pc := 78) hX d_EL_area_78 6 rfl ?_
          obtain rfl := Option.some.inj h
          exact g_iret (pc := 80) hX hR d_EL_area_80
def k_EL_area (x : zsX) (l1 : Int32) (l2 : Int32) (l3 : Int32) (l4 : Int32) (l5 : Int32) : Option (Int32) := (if l1 < 0 then some ((-1 : Int32)) else (if l1 < (4 : Int32) then (k_EL_isCell l2).bind fun o3 => (if o3 = 0 then some ((-1 : Int32)) else (k_EL_isDirection l3).bind fun o5 => (if o5 = 0 then some ((-1 : Int32)) else (if l4 < 0 then some ((-2 : Int32)) else (if (5 : Int32) < l4 then some ((-2 : Int32)) else (if l5 < (-1 : Int32) then some ((-2 : Int32)) else k_EL_area_51 x l1 l2 l3 l4 l5 zFu ((0 : Int32)) ((0 : Int32))))))) else some ((-1 : Int32))))
set_option maxRecDepth 20000 in
theorem c_EL_area (c : zY) (q : Nat → Nat) (x : zsX) (l1 : Int32) (l2 : Int32) (l3 : Int32) (l4 : Int32) (l5 : Int32) {out : Int32} (h : k_EL_area x l1 l2 l3 l4 l5 = some out) : KM zy_EL_area zb_EL_area 8 (some .int) 2 c [.ref ((q 17)), .int l1, .int l2, .int l3, .int l4, .int l5] (zwX c q x) (zwX c q x) (some (.int out)) := zK_of zp_EL rfl (Nat.le_of_ble_eq_true rfl) (zq_EL c q _ _) (fun X hX hR => by
  show Go X (zwX c q x) [(0, .ref ((q 17))), (1, .int l1), (2, .int l2), (3, .int l3), (4, .int l4), (5, .int l5)] 0 []
  rw [k_EL_area] at h
  refine g_iload_n (pc := 0) hX d_EL_area_0 rfl 1 rfl ?_
  refine g_if_lt (pc := 1) (tgt := 23) hX d_EL_area_1 (by decide) h (fun c1 h => ?_) (fun c1 h => ?_)
  · refine g_iconst (pc := 23) hX d_EL_area_23 zc_m1 ?_
    obtain rfl := Option.some.inj h
    exact g_iret (pc := 24) hX hR d_EL_area_24
  · refine g_iload_n (pc := 4) hX d_EL_area_4 rfl 1 rfl ?_
    refine g_iconst (pc := 5) hX d_EL_area_5 zc_4 ?_
    refine g_icmp_ge (pc := 6) (tgt := 23) hX d_EL_area_6 (by decide) h (fun c2 h => ?_) (fun c2 h => ?_)
    · refine g_iconst (pc := 23) hX d_EL_area_23 zc_m1 ?_
      obtain rfl := Option.some.inj h
      exact g_iret (pc := 24) hX hR d_EL_area_24
    · refine g_iload_n (pc := 9) hX d_EL_area_9 rfl 2 rfl ?_
      obtain ⟨o3, e3, h⟩ := zbind h
      refine g_csI (pc := 10) (st := []) hX zk_EL_isCell zL_EL_48 (c_EL_isCell c l2 e3) rfl rfl rfl rfl rfl d_EL_area_10 ?_
      refine g_if_eq (pc := 13) (tgt := 23) hX d_EL_area_13 (by decide) h (fun c4 h => ?_) (fun c4 h => ?_)
      · refine g_iconst (pc := 23) hX d_EL_area_23 zc_m1 ?_
        obtain rfl := Option.some.inj h
        exact g_iret (pc := 24) hX hR d_EL_area_24
      · refine g_iload_n (pc := 16) hX d_EL_area_16 rfl 3 rfl ?_
        obtain ⟨o5, e5, h⟩ := zbind h
        refine g_csI (pc := 17) (st := []) hX zk_EL_isDirection zL_EL_197 (c_EL_isDirection c l3 e5) rfl rfl rfl rfl rfl d_EL_area_17 ?_
        refine g_if_ne (pc := 20) (tgt := 25) hX d_EL_area_20 (by decide) h (fun c6 h => ?_) (fun c6 h => ?_)
        · refine g_iload (pc := 25) hX d_EL_area_25 4 rfl ?_
          refine g_if_lt (pc := 27) (tgt := 42) hX d_EL_area_27 (by decide) h (fun c7 h => ?_) (fun c7 h => ?_)
          · refine g_bipush (pc := 42) hX d_EL_area_42 ze_m2 ?_
            obtain rfl := Option.some.inj h
            exact g_iret (pc := 44) hX hR d_EL_area_44
          · refine g_iload (pc := 30) hX d_EL_area_30 4 rfl ?_
            refine g_iconst (pc := 32) hX d_EL_area_32 zc_5 ?_
            refine g_icmp_gt (pc := 33) (tgt := 42) hX d_EL_area_33 (by decide) h (fun c8 h => ?_) (fun c8 h => ?_)
            · refine g_bipush (pc := 42) hX d_EL_area_42 ze_m2 ?_
              obtain rfl := Option.some.inj h
              exact g_iret (pc := 44) hX hR d_EL_area_44
            · refine g_iload (pc := 36) hX d_EL_area_36 5 rfl ?_
              refine g_iconst (pc := 38) hX d_EL_area_38 zc_m1 ?_
              refine g_icmp_ge (pc := 39) (tgt := 45) hX d_EL_area_39 (by decide) h (fun c9 h => ?_) (fun c9 h => ?_)
              · refine g_iconst (pc := 45) hX d_EL_area_45 zc_0 ?_
                refine g_istore (pc := 46) (L' := [(6, .int ((0 : Int32))), (0, .ref ((q 17))), (1, .int l1), (2, .int l2), (3, .int l3), (4, .int l4), (5, .int l5)]) hX d_EL_area_46 rfl rfl ?_
                refine g_iconst (pc := 48) hX d_EL_area_48 zc_0 ?_
                refine g_istore (pc := 49) (L' := [(7, .int ((0 : Int32))), (6, .int ((0 : Int32))), (0, .ref ((q 17))), (1, .int l1), (2, .int l2), (3, .int l3), (4, .int l4), (5, .int l5)]) hX d_EL_area_49 rfl rfl ?_
                refine g_ls (L' := [(1, .int l1), (2, .int l2), (3, .int l3), (4, .int l4), (5, .int l5), (6, .int ((0 : Int32))), (7, .int ((0 : Int32)))]) [3, 4, 5, 6, 7, 1, 0] rfl ?_
                exact w_EL_area_51 hX hR _ _ _ h
              · refine g_bipush (pc := 42) hX d_EL_area_42 ze_m2 ?_
                obtain rfl := Option.some.inj h
                exact g_iret (pc := 44) hX hR d_EL_area_44
        · refine g_iconst (pc := 23) hX d_EL_area_23 zc_m1 ?_
          obtain rfl := Option.some.inj h
          exact g_iret (pc := 24) hX hR d_EL_area_24)
theorem d_EL_way_0 : decode zb_EL_way 0 = .ok (.iload_n 1, 1) := by decide +kernel
theorem d_EL_way_1 : decode zb_EL_way 1 = .ok (.invokestatic 48, 3) := by decide +kernel
theorem d_EL_way_4 : decode zb_EL_way 4 = .ok (.ifCond .ne 5, 3) := by decide +kernel
theorem d_EL_way_7 : decode zb_EL_way 7 = .ok (.iconst (-1), 1) := by decide +kernel
theorem d_EL_way_8 : decode zb_EL_way 8 = .ok (.ireturn, 1) := by decide +kernel
theorem d_EL_way_9 : decode zb_EL_way 9 = .ok (.aload_n 0, 1) := by decide +kernel
theorem d_EL_way_10 : decode zb_EL_way 10 = .ok (.getfield 10, 3) := by decide +kernel
theorem d_EL_way_13 : decode zb_EL_way 13 = .ok (.getfield 97, 3) := by decide +kernel
theorem d_EL_way_16 : decode zb_EL_way 16 = .ok (.invokevirtual 101, 3) := by decide +kernel
theorem d_EL_way_19 : decode zb_EL_way 19 = .ok (.ifCond .ne 9, 3) := by decide +kernel
theorem d_EL_way_22 : decode zb_EL_way 22 = .ok (.aload_n 0, 1) := by decide +kernel
theorem d_EL_way_23 : decode zb_EL_way 23 = .ok (.iconst 1, 1) := by decide +kernel
theorem d_EL_way_24 : decode zb_EL_way 24 = .ok (.invokevirtual 55, 3) := by decide +kernel
theorem d_EL_way_27 : decode zb_EL_way 27 = .ok (.ireturn, 1) := by decide +kernel
theorem d_EL_way_28 : decode zb_EL_way 28 = .ok (.aload_n 0, 1) := by decide +kernel
theorem d_EL_way_29 : decode zb_EL_way 29 = .ok (.getfield 10, 3) := by decide +kernel
theorem d_EL_way_32 : decode zb_EL_way 32 = .ok (.getfield 97, 3) := by decide +kernel
theorem d_EL_way_35 : decode zb_EL_way 35 = .ok (.invokevirtual 120, 3) := by decide +kernel
theorem d_EL_way_38 : decode zb_EL_way 38 = .ok (.istore_n 2, 1) := by decide +kernel
theorem d_EL_way_39 : decode zb_EL_way 39 = .ok (.iload_n 1, 1) := by decide +kernel
theorem d_EL_way_40 : decode zb_EL_way 40 = .ok (.aload_n 0, 1) := by decide +kernel
theorem d_EL_way_41 : decode zb_EL_way 41 = .ok (.getfield 10, 3) := by decide +kernel
theorem d_EL_way_44 : decode zb_EL_way 44 = .ok (.getfield 59, 3) := by decide +kernel
theorem d_EL_way_47 : decode zb_EL_way 47 = .ok (.iload_n 2, 1) := by decide +kernel
theorem d_EL_way_48 : decode zb_EL_way 48 = .ok (.iconst 1, 1) := by decide +kernel
theorem d_EL_way_49 : decode zb_EL_way 49 = .ok (.invokevirtual 107, 3) := by decide +kernel
theorem d_EL_way_52 : decode zb_EL_way 52 = .ok (.if_icmp .ne 5, 3) := by decide +kernel
theorem d_EL_way_55 : decode zb_EL_way 55 = .ok (.iconst 0, 1) := by decide +kernel
theorem d_EL_way_56 : decode zb_EL_way 56 = .ok (.ireturn, 1) := by decide +kernel
theorem d_EL_way_57 : decode zb_EL_way 57 = .ok (.aload_n 0, 1) := by decide +kernel
theorem d_EL_way_58 : decode zb_EL_way 58 = .ok (.getfield 10, 3) := by decide +kernel
theorem d_EL_way_61 : decode zb_EL_way 61 = .ok (.iload_n 1, 1) := by decide +kernel
theorem d_EL_way_62 : decode zb_EL_way 62 = .ok (.invokevirtual 52, 3) := by decide +kernel
theorem d_EL_way_65 : decode zb_EL_way 65 = .ok (.ifCond .eq 19, 3) := by decide +kernel
theorem d_EL_way_68 : decode zb_EL_way 68 = .ok (.aload_n 0, 1) := by decide +kernel
theorem d_EL_way_69 : decode zb_EL_way 69 = .ok (.getfield 36, 3) := by decide +kernel
theorem d_EL_way_72 : decode zb_EL_way 72 = .ok (.aload_n 0, 1) := by decide +kernel
theorem d_EL_way_73 : decode zb_EL_way 73 = .ok (.getfield 10, 3) := by decide +kernel
theorem d_EL_way_76 : decode zb_EL_way 76 = .ok (.iload_n 2, 1) := by decide +kernel
theorem d_EL_way_77 : decode zb_EL_way 77 = .ok (.iload_n 1, 1) := by decide +kernel
theorem d_EL_way_78 : decode zb_EL_way 78 = .ok (.invokevirtual 144, 3) := by decide +kernel
theorem d_EL_way_81 : decode zb_EL_way 81 = .ok (.goto 5, 3) := by decide +kernel
theorem d_EL_way_84 : decode zb_EL_way 84 = .ok (.bipush (-5), 2) := by decide +kernel
theorem d_EL_way_86 : decode zb_EL_way 86 = .ok (.ireturn, 1) := by decide +kernel
def k_EL_way (x : zsX) (l1 : Int32) : Option (Int32 × zsX) := (k_EL_isCell l1).bind fun o1 => (if o1 = 0 then some ((-1 : Int32), x) else (k_En_isOn x.2.2.2.2.1.1).bind fun o3 => (if o3 = 0 then (k_EL_refuse x ((1 : Int32))).bind fun o11 => some (o11.1, o11.2) else (k_En_current x.2.2.2.2.1.1).bind fun o5 => (k_Fi_at x.2.2.2.2.1.1.1 o5 ((1 : Int32))).bind fun o6 => (if l1 = o6 then some ((0 : Int32), x) else (k_St_isFree x.2.2.2.2.1 l1).bind fun o8 => (if o8 = 0 then some ((-5 : Int32), x) else (k_Wa_measure x.2.2.2.2.1 x.2.2.2.1 o5 l1).bind fun o10 => some (o10.1, (x.1, x.2.1, x.2.2.1, o10.2, x.2.2.2.2.1, x.2.2.2.2.2.1, x.2.2.2.2.2.2))))))
set_option maxRecDepth 20000 in
theorem c_EL_way (c : zY) (q : Nat → Nat) (x : zsX) (l1 : Int32) {out : Int32 × zsX} (h : k_EL_way x l1 = some out) : KM zy_EL_way zb_EL_way 3 (some .int) 4 c [.ref ((q 17)), .int l1] (zwX c q x) (zwX c q out.2) (some (.int out.1)) := zK_of zp_EL rfl (Nat.le_of_ble_eq_true rfl) (zq_EL c q _ _) (fun X hX hR => by
  show Go X (zwX c q x) [(0, .ref ((q 17))), (1, .int l1)] 0 []
  rw [k_EL_way] at h
  refine g_iload_n (pc := 0) hX d_EL_way_0 rfl 1 rfl ?_
  obtain ⟨o1, e1, h⟩ := zbind h
  refine g_csI (pc := 1) (st := []) hX zk_EL_isCell zL_EL_48 (c_EL_isCell c l1 e1) rfl rfl rfl rfl rfl d_EL_way_1 ?_
  refine g_if_ne (pc := 4) (tgt := 9) hX d_EL_way_4 (by decide) h (fun c2 h => ?_) (fun c2 h => ?_)
  · refine g_aload_n (pc := 9) hX d_EL_way_9 rfl 0 rfl ?_
    refine gf_EL_10 (pc := 10) (v := .ref ((q 12))) hX 3 rfl rfl d_EL_way_10 ?_
    refine gf_EL_97 (pc := 13) (v := .ref ((q 9))) hX 19 rfl rfl d_EL_way_13 ?_
    obtain ⟨o3, e3, h⟩ := zbind h
    refine g_cvI (pc := 16)  (st := []) (w' := (zwX c q x)) hX zk_En_isOn zs_En_isOn zL_EL_101 (c_En_isOn c q x.2.2.2.2.1.1 e3) rfl rfl rfl rfl (sp_EL_En_7 c q x) (sp_EL_En_7 c q x).symm 16 2 rfl rfl rfl d_EL_way_16 ?_
    refine g_if_ne (pc := 19) (tgt := 28) hX d_EL_way_19 (by decide) h (fun c4 h => ?_) (fun c4 h => ?_)
    · refine g_aload_n (pc := 28) hX d_EL_way_28 rfl 0 rfl ?_
      refine gf_EL_10 (pc := 29) (v := .ref ((q 12))) hX 3 rfl rfl d_EL_way_29 ?_
      refine gf_EL_97 (pc := 32) (v := .ref ((q 9))) hX 19 rfl rfl d_EL_way_32 ?_
      obtain ⟨o5, e5, h⟩ := zbind h
      refine g_cvI (pc := 35)  (st := []) (w' := (zwX c q x)) hX zk_En_current zs_En_current zL_EL_120 (c_En_current c q x.2.2.2.2.1.1 e5) rfl rfl rfl rfl (sp_EL_En_7 c q x) (sp_EL_En_7 c q x).symm 16 2 rfl rfl rfl d_EL_way_35 ?_
      refine g_istore_n (pc := 38) (L' := [(2, .int o5), (0, .ref ((q 17))), (1, .int l1)]) hX d_EL_way_38 rfl rfl rfl ?_
      refine g_iload_n (pc := 39) hX d_EL_way_39 rfl 2 rfl ?_
      refine g_aload_n (pc := 40) hX d_EL_way_40 rfl 1 rfl ?_
      refine gf_EL_10 (pc := 41) (v := .ref ((q 12))) hX 3 rfl rfl d_EL_way_41 ?_
      refine gf_EL_59 (pc := 44) (v := .ref ((q 6))) hX 19 rfl rfl d_EL_way_44 ?_
      refine g_iload_n (pc := 47) hX d_EL_way_47 rfl 0 rfl ?_
      refine g_iconst (pc := 48) hX d_EL_way_48 zc_1 ?_
      obtain ⟨o6, e6, h⟩ := zbind h
      refine g_cvI (pc := 49)  (st := [.int l1]) (w' := (zwX c q x)) hX zk_Fi_at zs_Fi_at zL_EL_107 (c_Fi_at c q x.2.2.2.2.1.1.1 o5 ((1 : Int32)) e6) rfl rfl rfl rfl (sp_EL_Fi_7 c q x) (sp_EL_Fi_7 c q x).symm 13 3 rfl rfl rfl d_EL_way_49 ?_
      refine g_icmp_ne (pc := 52) (tgt := 57) hX d_EL_way_52 (by decide) h (fun c7 h => ?_) (fun c7 h => ?_)
      · refine g_aload_n (pc := 57) hX d_EL_way_57 rfl 1 rfl ?_
        refine gf_EL_10 (pc := 58) (v := .ref ((q 12))) hX 3 rfl rfl d_EL_way_58 ?_
        refine g_iload_n (pc := 61) hX d_EL_way_61 rfl 2 rfl ?_
        obtain ⟨o8, e8, h⟩ := zbind h
        refine g_cvI (pc := 62)  (st := []) (w' := (zwX c q x)) hX zk_St_isFree zs_St_isFree zL_EL_52 (c_St_isFree c q x.2.2.2.2.1 l1 e8) rfl rfl rfl rfl (sp_EL_St_7 c q x) (sp_EL_St_7 c q x).symm 19 5 rfl rfl rfl d_EL_way_62 ?_
        refine g_if_eq (pc := 65) (tgt := 84) hX d_EL_way_65 (by decide) h (fun c9 h => ?_) (fun c9 h => ?_)
        · refine g_bipush (pc := 84) hX d_EL_way_84 ze_m5 ?_
          obtain rfl := Option.some.inj h
          exact g_iret (pc := 86) hX hR d_EL_way_86
        · refine g_aload_n (pc := 68) hX d_EL_way_68 rfl 1 rfl ?_
          refine gf_EL_36 (pc := 69) (v := .ref ((q 21))) hX 3 rfl rfl d_EL_way_69 ?_
          refine g_aload_n (pc := 72) hX d_EL_way_72 rfl 1 rfl ?_
          refine gf_EL_10 (pc := 73) (v := .ref ((q 12))) hX 3 rfl rfl d_EL_way_73 ?_
          refine g_iload_n (pc := 76) hX d_EL_way_76 rfl 0 rfl ?_
          refine g_iload_n (pc := 77) hX d_EL_way_77 rfl 2 rfl ?_
          obtain ⟨o10, e10, h⟩ := zbind h
          refine g_cvI (pc := 78) (st := []) (w' := (zwX c q ((x.1, x.2.1, x.2.2.1, o10.2, x.2.2.2.2.1, x.2.2.2.2.2.1, x.2.2.2.2.2.2)))) hX zk_Wa_measure zs_Wa_measure zL_EL_144 (c_Wa_measure c (q 21) (q 22) (q 23) q x.2.2.2.2.1 x.2.2.2.1 o5 l1 e10) rfl rfl rfl rfl (sp_WS c q x) (sq_WS c q x o10.2) 4 8 rfl rfl rfl d_EL_way_78 ?_
          refine g_goto (pc := 81) (tgt := 86) hX d_EL_way_81 (by decide) ?_
          obtain rfl := Option.some.inj h
          exact g_iret (pc := 86) hX hR d_EL_way_86
      · refine g_iconst (pc := 55) hX d_EL_way_55 zc_0 ?_
        obtain rfl := Option.some.inj h
        exact g_iret (pc := 56) hX hR d_EL_way_56
    · refine g_aload_n (pc := 22) hX d_EL_way_22 rfl 0 rfl ?_
      refine g_iconst (pc := 23) hX d_EL_way_23 zc_1 ?_
      obtain ⟨o11, e11, h⟩ := zbind h
      refine g_cvI (pc := 24) (w1 := []) (w2 := []) (st := []) (w' := (zwX c q o11.2)) hX zk_EL_refuse zs_EL_refuse zL_EL_55 (c_EL_refuse c q x ((1 : Int32)) e11) rfl rfl rfl rfl (zself _) (zself _).symm 3 9 rfl rfl rfl d_EL_way_24 ?_
      obtain rfl := Option.some.inj h
      exact g_iret (pc := 27) hX hR d_EL_way_27
  · refine g_iconst (pc := 7) hX d_EL_way_7 zc_m1 ?_
    obtain rfl := Option.some.inj h
    exact g_iret (pc := 8) hX hR d_EL_way_8)
theorem d_EL_entry_0 : decode zb_EL_entry 0 = .ok (.iload_n 1, 1) := by decide +kernel
theorem d_EL_entry_1 : decode zb_EL_entry 1 = .ok (.iconst (-1), 1) := by decide +kernel
theorem d_EL_entry_2 : decode zb_EL_entry 2 = .ok (.if_icmp .ne 14, 3) := by decide +kernel
theorem d_EL_entry_5 : decode zb_EL_entry 5 = .ok (.aload_n 0, 1) := by decide +kernel
theorem d_EL_entry_6 : decode zb_EL_entry 6 = .ok (.getfield 10, 3) := by decide +kernel
theorem d_EL_entry_9 : decode zb_EL_entry 9 = .ok (.getfield 257, 3) := by decide +kernel
theorem d_EL_entry_12 : decode zb_EL_entry 12 = .ok (.getfield 261, 3) := by decide +kernel
theorem d_EL_entry_15 : decode zb_EL_entry 15 = .ok (.ireturn, 1) := by decide +kernel
theorem d_EL_entry_16 : decode zb_EL_entry 16 = .ok (.aload_n 0, 1) := by decide +kernel
theorem d_EL_entry_17 : decode zb_EL_entry 17 = .ok (.getfield 10, 3) := by decide +kernel
theorem d_EL_entry_20 : decode zb_EL_entry 20 = .ok (.getfield 257, 3) := by decide +kernel
theorem d_EL_entry_23 : decode zb_EL_entry 23 = .ok (.iload_n 1, 1) := by decide +kernel
theorem d_EL_entry_24 : decode zb_EL_entry 24 = .ok (.invokevirtual 266, 3) := by decide +kernel
theorem d_EL_entry_27 : decode zb_EL_entry 27 = .ok (.ifCond .eq 12, 3) := by decide +kernel
theorem d_EL_entry_30 : decode zb_EL_entry 30 = .ok (.iload_n 2, 1) := by decide +kernel
theorem d_EL_entry_31 : decode zb_EL_entry 31 = .ok (.ifCond .lt 8, 3) := by decide +kernel
theorem d_EL_entry_34 : decode zb_EL_entry 34 = .ok (.iload_n 2, 1) := by decide +kernel
theorem d_EL_entry_35 : decode zb_EL_entry 35 = .ok (.iconst 3, 1) := by decide +kernel
theorem d_EL_entry_36 : decode zb_EL_entry 36 = .ok (.if_icmp .lt 5, 3) := by decide +kernel
theorem d_EL_entry_39 : decode zb_EL_entry 39 = .ok (.iconst (-1), 1) := by decide +kernel
theorem d_EL_entry_40 : decode zb_EL_entry 40 = .ok (.ireturn, 1) := by decide +kernel
theorem d_EL_entry_41 : decode zb_EL_entry 41 = .ok (.aload_n 0, 1) := by decide +kernel
theorem d_EL_entry_42 : decode zb_EL_entry 42 = .ok (.getfield 10, 3) := by decide +kernel
theorem d_EL_entry_45 : decode zb_EL_entry 45 = .ok (.getfield 257, 3) := by decide +kernel
theorem d_EL_entry_48 : decode zb_EL_entry 48 = .ok (.iload_n 1, 1) := by decide +kernel
theorem d_EL_entry_49 : decode zb_EL_entry 49 = .ok (.iload_n 2, 1) := by decide +kernel
theorem d_EL_entry_50 : decode zb_EL_entry 50 = .ok (.invokevirtual 269, 3) := by decide +kernel
theorem d_EL_entry_53 : decode zb_EL_entry 53 = .ok (.ireturn, 1) := by decide +kernel
def k_EL_entry (x : zsX) (l1 : Int32) (l2 : Int32) : Option (Int32) := (if l1 = (-1 : Int32) then some x.2.2.2.2.1.1.1.1.1.2 else (k_Jo_keeps x.2.2.2.2.1.1.1.1.1 l1).bind fun o2 => (if o2 = 0 then some ((-1 : Int32)) else (if l2 < 0 then some ((-1 : Int32)) else (if l2 < (3 : Int32) then (k_Jo_at x.2.2.2.2.1.1.1.1.1 l1 l2).bind fun o6 => some o6 else some ((-1 : Int32))))))
set_option maxRecDepth 20000 in
theorem c_EL_entry (c : zY) (q : Nat → Nat) (x : zsX) (l1 : Int32) (l2 : Int32) {out : Int32} (h : k_EL_entry x l1 l2 = some out) : KM zy_EL_entry zb_EL_entry 3 (some .int) 1 c [.ref ((q 17)), .int l1, .int l2] (zwX c q x) (zwX c q x) (some (.int out)) := zK_of zp_EL rfl (Nat.le_of_ble_eq_true rfl) (zq_EL c q _ _) (fun X hX hR => by
  show Go X (zwX c q x) [(0, .ref ((q 17))), (1, .int l1), (2, .int l2)] 0 []
  rw [k_EL_entry] at h
  refine g_iload_n (pc := 0) hX d_EL_entry_0 rfl 1 rfl ?_
  refine g_iconst (pc := 1) hX d_EL_entry_1 zc_m1 ?_
  refine g_icmp_ne (pc := 2) (tgt := 16) hX d_EL_entry_2 (by decide) h (fun c1 h => ?_) (fun c1 h => ?_)
  · refine g_aload_n (pc := 16) hX d_EL_entry_16 rfl 0 rfl ?_
    refine gf_EL_10 (pc := 17) (v := .ref ((q 12))) hX 3 rfl rfl d_EL_entry_17 ?_
    refine gf_EL_257 (pc := 20) (v := .ref ((q 0))) hX 19 rfl rfl d_EL_entry_20 ?_
    refine g_iload_n (pc := 23) hX d_EL_entry_23 rfl 1 rfl ?_
    obtain ⟨o2, e2, h⟩ := zbind h
    refine g_cvI (pc := 24)  (st := []) (w' := (zwX c q x)) hX zk_Jo_keeps zs_Jo_keeps zL_EL_266 (c_Jo_keeps c q x.2.2.2.2.1.1.1.1.1 l1 e2) rfl rfl rfl rfl (sp_EL_Jo_7 c q x) (sp_EL_Jo_7 c q x).symm 7 4 rfl rfl rfl d_EL_entry_24 ?_
    refine g_if_eq (pc := 27) (tgt := 39) hX d_EL_entry_27 (by decide) h (fun c3 h => ?_) (fun c3 h => ?_)
    · refine g_iconst (pc := 39) hX d_EL_entry_39 zc_m1 ?_
      obtain rfl := Option.some.inj h
      exact g_iret (pc := 40) hX hR d_EL_entry_40
    · refine g_iload_n (pc := 30) hX d_EL_entry_30 rfl 2 rfl ?_
      refine g_if_lt (pc := 31) (tgt := 39) hX d_EL_entry_31 (by decide) h (fun c4 h => ?_) (fun c4 h => ?_)
      · refine g_iconst (pc := 39) hX d_EL_entry_39 zc_m1 ?_
        obtain rfl := Option.some.inj h
        exact g_iret (pc := 40) hX hR d_EL_entry_40
      · refine g_iload_n (pc := 34) hX d_EL_entry_34 rfl 2 rfl ?_
        refine g_iconst (pc := 35) hX d_EL_entry_35 zc_3 ?_
        refine g_icmp_lt (pc := 36) (tgt := 41) hX d_EL_entry_36 (by decide) h (fun c5 h => ?_) (fun c5 h => ?_)
        · refine g_aload_n (pc := 41) hX d_EL_entry_41 rfl 0 rfl ?_
          refine gf_EL_10 (pc := 42) (v := .ref ((q 12))) hX 3 rfl rfl d_EL_entry_42 ?_
          refine gf_EL_257 (pc := 45) (v := .ref ((q 0))) hX 19 rfl rfl d_EL_entry_45 ?_
          refine g_iload_n (pc := 48) hX d_EL_entry_48 rfl 1 rfl ?_
          refine g_iload_n (pc := 49) hX d_EL_entry_49 rfl 2 rfl ?_
          obtain ⟨o6, e6, h⟩ := zbind h
          refine g_cvI (pc := 50)  (st := []) (w' := (zwX c q x)) hX zk_Jo_at zs_Jo_at zL_EL_269 (c_Jo_at c q x.2.2.2.2.1.1.1.1.1 l1 l2 e6) rfl rfl rfl rfl (sp_EL_Jo_7 c q x) (sp_EL_Jo_7 c q x).symm 7 4 rfl rfl rfl d_EL_entry_50 ?_
          obtain rfl := Option.some.inj h
          exact g_iret (pc := 53) hX hR d_EL_entry_53
        · refine g_iconst (pc := 39) hX d_EL_entry_39 zc_m1 ?_
          obtain rfl := Option.some.inj h
          exact g_iret (pc := 40) hX hR d_EL_entry_40
  · refine g_aload_n (pc := 5) hX d_EL_entry_5 rfl 0 rfl ?_
    refine gf_EL_10 (pc := 6) (v := .ref ((q 12))) hX 3 rfl rfl d_EL_entry_6 ?_
    refine gf_EL_257 (pc := 9) (v := .ref ((q 0))) hX 19 rfl rfl d_EL_entry_9 ?_
    refine gf_EL_261 (pc := 12) (v := .int x.2.2.2.2.1.1.1.1.1.2) hX 7 rfl rfl d_EL_entry_12 ?_
    obtain rfl := Option.some.inj h
    exact g_iret (pc := 15) hX hR d_EL_entry_15)
theorem d_EL_replayed_0 : decode zb_EL_replayed 0 = .ok (.aload_n 0, 1) := by decide +kernel
theorem d_EL_replayed_1 : decode zb_EL_replayed 1 = .ok (.getfield 10, 3) := by decide +kernel
theorem d_EL_replayed_4 : decode zb_EL_replayed 4 = .ok (.getfield 59, 3) := by decide +kernel
theorem d_EL_replayed_7 : decode zb_EL_replayed 7 = .ok (.iload_n 1, 1) := by decide +kernel
theorem d_EL_replayed_8 : decode zb_EL_replayed 8 = .ok (.invokevirtual 94, 3) := by decide +kernel
theorem d_EL_replayed_11 : decode zb_EL_replayed 11 = .ok (.ifCond .eq 12, 3) := by decide +kernel
theorem d_EL_replayed_14 : decode zb_EL_replayed 14 = .ok (.iload_n 2, 1) := by decide +kernel
theorem d_EL_replayed_15 : decode zb_EL_replayed 15 = .ok (.ifCond .lt 8, 3) := by decide +kernel
theorem d_EL_replayed_18 : decode zb_EL_replayed 18 = .ok (.iload_n 2, 1) := by decide +kernel
theorem d_EL_replayed_19 : decode zb_EL_replayed 19 = .ok (.iconst 5, 1) := by decide +kernel
theorem d_EL_replayed_20 : decode zb_EL_replayed 20 = .ok (.if_icmp .le 5, 3) := by decide +kernel
theorem d_EL_replayed_23 : decode zb_EL_replayed 23 = .ok (.iconst (-1), 1) := by decide +kernel
theorem d_EL_replayed_24 : decode zb_EL_replayed 24 = .ok (.ireturn, 1) := by decide +kernel
theorem d_EL_replayed_25 : decode zb_EL_replayed 25 = .ok (.aload_n 0, 1) := by decide +kernel
theorem d_EL_replayed_26 : decode zb_EL_replayed 26 = .ok (.getfield 10, 3) := by decide +kernel
theorem d_EL_replayed_29 : decode zb_EL_replayed 29 = .ok (.getfield 257, 3) := by decide +kernel
theorem d_EL_replayed_32 : decode zb_EL_replayed 32 = .ok (.invokevirtual 270, 3) := by decide +kernel
theorem d_EL_replayed_35 : decode zb_EL_replayed 35 = .ok (.ifCond .ne 10, 3) := by decide +kernel
theorem d_EL_replayed_38 : decode zb_EL_replayed 38 = .ok (.aload_n 0, 1) := by decide +kernel
theorem d_EL_replayed_39 : decode zb_EL_replayed 39 = .ok (.bipush 10, 2) := by decide +kernel
theorem d_EL_replayed_41 : decode zb_EL_replayed 41 = .ok (.invokevirtual 55, 3) := by decide +kernel
theorem d_EL_replayed_44 : decode zb_EL_replayed 44 = .ok (.ireturn, 1) := by decide +kernel
theorem d_EL_replayed_45 : decode zb_EL_replayed 45 = .ok (.iload_n 2, 1) := by decide +kernel
theorem d_EL_replayed_46 : decode zb_EL_replayed 46 = .ok (.tableswitch 97 0 4 #[34, 46, 59, 71, 83], 34) := by decide +kernel
theorem d_EL_replayed_80 : decode zb_EL_replayed 80 = .ok (.aload_n 0, 1) := by decide +kernel
theorem d_EL_replayed_81 : decode zb_EL_replayed 81 = .ok (.getfield 10, 3) := by decide +kernel
theorem d_EL_replayed_84 : decode zb_EL_replayed 84 = .ok (.getfield 257, 3) := by decide +kernel
theorem d_EL_replayed_87 : decode zb_EL_replayed 87 = .ok (.iload_n 1, 1) := by decide +kernel
theorem d_EL_replayed_88 : decode zb_EL_replayed 88 = .ok (.invokevirtual 273, 3) := by decide +kernel
theorem d_EL_replayed_91 : decode zb_EL_replayed 91 = .ok (.ireturn, 1) := by decide +kernel
theorem d_EL_replayed_92 : decode zb_EL_replayed 92 = .ok (.aload_n 0, 1) := by decide +kernel
theorem d_EL_replayed_93 : decode zb_EL_replayed 93 = .ok (.getfield 10, 3) := by decide +kernel
theorem d_EL_replayed_96 : decode zb_EL_replayed 96 = .ok (.getfield 257, 3) := by decide +kernel
theorem d_EL_replayed_99 : decode zb_EL_replayed 99 = .ok (.iconst 1, 1) := by decide +kernel
theorem d_EL_replayed_100 : decode zb_EL_replayed 100 = .ok (.iload_n 1, 1) := by decide +kernel
theorem d_EL_replayed_101 : decode zb_EL_replayed 101 = .ok (.invokevirtual 276, 3) := by decide +kernel
theorem d_EL_replayed_104 : decode zb_EL_replayed 104 = .ok (.ireturn, 1) := by decide +kernel
theorem d_EL_replayed_105 : decode zb_EL_replayed 105 = .ok (.aload_n 0, 1) := by decide +kernel
theorem d_EL_replayed_106 : decode zb_EL_replayed 106 = .ok (.getfield 10, 3) := by decide +kernel
theorem d_EL_replayed_109 : decode zb_EL_replayed 109 = .ok (.getfield 257, 3) := by decide +kernel
theorem d_EL_replayed_112 : decode zb_EL_replayed 112 = .ok (.iload_n 1, 1) := by decide +kernel
theorem d_EL_replayed_113 : decode zb_EL_replayed 113 = .ok (.invokevirtual 278, 3) := by decide +kernel
theorem d_EL_replayed_116 : decode zb_EL_replayed 116 = .ok (.ireturn, 1) := by decide +kernel
theorem d_EL_replayed_117 : decode zb_EL_replayed 117 = .ok (.aload_n 0, 1) := by decide +kernel
theorem d_EL_replayed_118 : decode zb_EL_replayed 118 = .ok (.getfield 10, 3) := by decide +kernel
theorem d_EL_replayed_121 : decode zb_EL_replayed 121 = .ok (.getfield 257, 3) := by decide +kernel
theorem d_EL_replayed_124 : decode zb_EL_replayed 124 = .ok (.iload_n 1, 1) := by decide +kernel
theorem d_EL_replayed_125 : decode zb_EL_replayed 125 = .ok (.invokevirtual 281, 3) := by decide +kernel
theorem d_EL_replayed_128 : decode zb_EL_replayed 128 = .ok (.ireturn, 1) := by decide +kernel
theorem d_EL_replayed_129 : decode zb_EL_replayed 129 = .ok (.aload_n 0, 1) := by decide +kernel
theorem d_EL_replayed_130 : decode zb_EL_replayed 130 = .ok (.getfield 10, 3) := by decide +kernel
theorem d_EL_replayed_133 : decode zb_EL_replayed 133 = .ok (.getfield 257, 3) := by decide +kernel
theorem d_EL_replayed_136 : decode zb_EL_replayed 136 = .ok (.bipush 8, 2) := by decide +kernel
theorem d_EL_replayed_138 : decode zb_EL_replayed 138 = .ok (.iload_n 1, 1) := by decide +kernel
theorem d_EL_replayed_139 : decode zb_EL_replayed 139 = .ok (.invokevirtual 276, 3) := by decide +kernel
theorem d_EL_replayed_142 : decode zb_EL_replayed 142 = .ok (.ireturn, 1) := by decide +kernel
theorem d_EL_replayed_143 : decode zb_EL_replayed 143 = .ok (.aload_n 0, 1) := by decide +kernel
theorem d_EL_replayed_144 : decode zb_EL_replayed 144 = .ok (.getfield 10, 3) := by decide +kernel
theorem d_EL_replayed_147 : decode zb_EL_replayed 147 = .ok (.getfield 257, 3) := by decide +kernel
theorem d_EL_replayed_150 : decode zb_EL_replayed 150 = .ok (.iconst 3, 1) := by decide +kernel
theorem d_EL_replayed_151 : decode zb_EL_replayed 151 = .ok (.iload_n 1, 1) := by decide +kernel
theorem d_EL_replayed_152 : decode zb_EL_replayed 152 = .ok (.invokevirtual 276, 3) := by decide +kernel
theorem d_EL_replayed_155 : decode zb_EL_replayed 155 = .ok (.ireturn, 1) := by decide +kernel
def k_EL_replayed (x : zsX) (l1 : Int32) (l2 : Int32) : Option (Int32 × zsX) := (k_Fi_has x.2.2.2.2.1.1.1 l1).bind fun o1 => (if o1 = 0 then some ((-1 : Int32), x) else (if l2 < 0 then some ((-1 : Int32), x) else (if (5 : Int32) < l2 then some ((-1 : Int32), x) else (k_Jo_keepsAll x.2.2.2.2.1.1.1.1.1).bind fun o5 => (if o5 = 0 then (k_EL_refuse x ((10 : Int32))).bind fun o18 => some (o18.1, o18.2) else (if l2 = (0 : Int32) then (k_Jo_lifeOf x.2.2.2.2.1.1.1.1.1 l1).bind fun o8 => some (o8, x) else (if l2 = (1 : Int32) then (k_Jo_numberOf x.2.2.2.2.1.1.1.1.1 ((1 : Int32)) l1).bind fun o10 => some (o10, x) else (if l2 = (2 : Int32) then (k_Jo_spentBy x.2.2.2.2.1.1.1.1.1 l1).bind fun o12 => some (o12, x) else (if l2 = (3 : Int32) then (k_Jo_latestMoveOf x.2.2.2.2.1.1.1.1.1 l1).bind fun o14 => some (o14, x) else (if l2 = (4 : Int32) then (k_Jo_numberOf x.2.2.2.2.1.1.1.1.1 ((8 : Int32)) l1).bind fun o16 => some (o16, x) else (k_Jo_numberOf x.2.2.2.2.1.1.1.1.1 ((3 : Int32)) l1).bind fun o17 => some (o17, x))))))))))
set_option maxRecDepth 20000 in
theorem c_EL_replayed (c : zY) (q : Nat → Nat) (x : zsX) (l1 : Int32) (l2 : Int32) {out : Int32 × zsX} (h : k_EL_replayed x l1 l2 = some out) : KM zy_EL_replayed zb_EL_replayed 3 (some .int) 4 c [.ref ((q 17)), .int l1, .int l2] (zwX c q x) (zwX c q out.2) (some (.int out.1)) := zK_of zp_EL rfl (Nat.le_of_ble_eq_true rfl) (zq_EL c q _ _) (fun X hX hR => by
  show Go X (zwX c q x) [(0, .ref ((q 17))), (1, .int l1), (2, .int l2)] 0 []
  rw [k_EL_replayed] at h
  refine g_aload_n (pc := 0) hX d_EL_replayed_0 rfl 0 rfl ?_
  refine gf_EL_10 (pc := 1) (v := .ref ((q 12))) hX 3 rfl rfl d_EL_replayed_1 ?_
  refine gf_EL_59 (pc := 4) (v := .ref ((q 6))) hX 19 rfl rfl d_EL_replayed_4 ?_
  refine g_iload_n (pc := 7) hX d_EL_replayed_7 rfl 1 rfl ?_
  obtain ⟨o1, e1, h⟩ := zbind h
  refine g_cvI (pc := 8)  (st := []) (w' := (zwX c q x)) hX zk_Fi_has zs_Fi_has zL_EL_94 (c_Fi_has c q x.2.2.2.2.1.1.1 l1 e1) rfl rfl rfl rfl (sp_EL_Fi_7 c q x) (sp_EL_Fi_7 c q x).symm 13 3 rfl rfl rfl d_EL_replayed_8 ?_
  refine g_if_eq (pc := 11) (tgt := 23) hX d_EL_replayed_11 (by decide) h (fun c2 h => ?_) (fun c2 h => ?_)
  · refine g_iconst (pc := 23) hX d_EL_replayed_23 zc_m1 ?_
    obtain rfl := Option.some.inj h
    exact g_iret (pc := 24) hX hR d_EL_replayed_24
  · refine g_iload_n (pc := 14) hX d_EL_replayed_14 rfl 2 rfl ?_
    refine g_if_lt (pc := 15) (tgt := 23) hX d_EL_replayed_15 (by decide) h (fun c3 h => ?_) (fun c3 h => ?_)
    · refine g_iconst (pc := 23) hX d_EL_replayed_23 zc_m1 ?_
      obtain rfl := Option.some.inj h
      exact g_iret (pc := 24) hX hR d_EL_replayed_24
    · refine g_iload_n (pc := 18) hX d_EL_replayed_18 rfl 2 rfl ?_
      refine g_iconst (pc := 19) hX d_EL_replayed_19 zc_5 ?_
      refine g_icmp_le (pc := 20) (tgt := 25) hX d_EL_replayed_20 (by decide) h (fun c4 h => ?_) (fun c4 h => ?_)
      · refine g_aload_n (pc := 25) hX d_EL_replayed_25 rfl 0 rfl ?_
        refine gf_EL_10 (pc := 26) (v := .ref ((q 12))) hX 3 rfl rfl d_EL_replayed_26 ?_
        refine gf_EL_257 (pc := 29) (v := .ref ((q 0))) hX 19 rfl rfl d_EL_replayed_29 ?_
        obtain ⟨o5, e5, h⟩ := zbind h
        refine g_cvI (pc := 32)  (st := []) (w' := (zwX c q x)) hX zk_Jo_keepsAll zs_Jo_keepsAll zL_EL_270 (c_Jo_keepsAll c q x.2.2.2.2.1.1.1.1.1 e5) rfl rfl rfl rfl (sp_EL_Jo_7 c q x) (sp_EL_Jo_7 c q x).symm 7 4 rfl rfl rfl d_EL_replayed_32 ?_
        refine g_if_ne (pc := 35) (tgt := 45) hX d_EL_replayed_35 (by decide) h (fun c6 h => ?_) (fun c6 h => ?_)
        · refine g_iload_n (pc := 45) hX d_EL_replayed_45 rfl 2 rfl ?_
          by_cases c7 : l2 = (0 : Int32)
          · rw [if_pos c7] at h
            refine g_tswIn (pc := 46) (tgt := 80) (off := 34) hX d_EL_replayed_46 (0 : Int32) c7 (by decide) (by decide) rfl (by decide) ?_
            refine g_aload_n (pc := 80) hX d_EL_replayed_80 rfl 0 rfl ?_
            refine gf_EL_10 (pc := 81) (v := .ref ((q 12))) hX 3 rfl rfl d_EL_replayed_81 ?_
            refine gf_EL_257 (pc := 84) (v := .ref ((q 0))) hX 19 rfl rfl d_EL_replayed_84 ?_
            refine g_iload_n (pc := 87) hX d_EL_replayed_87 rfl 1 rfl ?_
            obtain ⟨o8, e8, h⟩ := zbind h
            refine g_cvI (pc := 88)  (st := []) (w' := (zwX c q x)) hX zk_Jo_lifeOf zs_Jo_lifeOf zL_EL_273 (c_Jo_lifeOf c q x.2.2.2.2.1.1.1.1.1 l1 e8) rfl rfl rfl rfl (sp_EL_Jo_7 c q x) (sp_EL_Jo_7 c q x).symm 7 4 rfl rfl rfl d_EL_replayed_88 ?_
            obtain rfl := Option.some.inj h
            exact g_iret (pc := 91) hX hR d_EL_replayed_91
          rw [if_neg c7] at h
          by_cases c9 : l2 = (1 : Int32)
          · rw [if_pos c9] at h
            refine g_tswIn (pc := 46) (tgt := 92) (off := 46) hX d_EL_replayed_46 (1 : Int32) c9 (by decide) (by decide) rfl (by decide) ?_
            refine g_aload_n (pc := 92) hX d_EL_replayed_92 rfl 0 rfl ?_
            refine gf_EL_10 (pc := 93) (v := .ref ((q 12))) hX 3 rfl rfl d_EL_replayed_93 ?_
            refine gf_EL_257 (pc := 96) (v := .ref ((q 0))) hX 19 rfl rfl d_EL_replayed_96 ?_
            refine g_iconst (pc := 99) hX d_EL_replayed_99 zc_1 ?_
            refine g_iload_n (pc := 100) hX d_EL_replayed_100 rfl 1 rfl ?_
            obtain ⟨o10, e10, h⟩ := zbind h
            refine g_cvI (pc := 101)  (st := []) (w' := (zwX c q x)) hX zk_Jo_numberOf zs_Jo_numberOf zL_EL_276 (c_Jo_numberOf c q x.2.2.2.2.1.1.1.1.1 ((1 : Int32)) l1 e10) rfl rfl rfl rfl (sp_EL_Jo_7 c q x) (sp_EL_Jo_7 c q x).symm 7 4 rfl rfl rfl d_EL_replayed_101 ?_
            obtain rfl := Option.some.inj h
            exact g_iret (pc := 104) hX hR d_EL_replayed_104
          rw [if_neg c9] at h
          by_cases c11 : l2 = (2 : Int32)
          · rw [if_pos c11] at h
            refine g_tswIn (pc := 46) (tgt := 105) (off := 59) hX d_EL_replayed_46 (2 : Int32) c11 (by decide) (by decide) rfl (by decide) ?_
            refine g_aload_n (pc := 105) hX d_EL_replayed_105 rfl 0 rfl ?_
            refine gf_EL_10 (pc := 106) (v := .ref ((q 12))) hX 3 rfl rfl d_EL_replayed_106 ?_
            refine gf_EL_257 (pc := 109) (v := .ref ((q 0))) hX 19 rfl rfl d_EL_replayed_109 ?_
            refine g_iload_n (pc := 112) hX d_EL_replayed_112 rfl 1 rfl ?_
            obtain ⟨o12, e12, h⟩ := zbind h
            refine g_cvI (pc := 113)  (st := []) (w' := (zwX c q x)) hX zk_Jo_spentBy zs_Jo_spentBy zL_EL_278 (c_Jo_spentBy c q x.2.2.2.2.1.1.1.1.1 l1 e12) rfl rfl rfl rfl (sp_EL_Jo_7 c q x) (sp_EL_Jo_7 c q x).symm 7 4 rfl rfl rfl d_EL_replayed_113 ?_
            obtain rfl := Option.some.inj h
            exact g_iret (pc := 116) hX hR d_EL_replayed_116
          rw [if_neg c11] at h
          by_cases c13 : l2 = (3 : Int32)
          · rw [if_pos c13] at h
            refine g_tswIn (pc := 46) (tgt := 117) (off := 71) hX d_EL_replayed_46 (3 : Int32) c13 (by decide) (by decide) rfl (by decide) ?_
            refine g_aload_n (pc := 117) hX d_EL_replayed_117 rfl 0 rfl ?_
            refine gf_EL_10 (pc := 118) (v := .ref ((q 12))) hX 3 rfl rfl d_EL_replayed_118 ?_
            refine gf_EL_257 (pc := 121) (v := .ref ((q 0))) hX 19 rfl rfl d_EL_replayed_121 ?_
            refine g_iload_n (pc := 124) hX d_EL_replayed_124 rfl 1 rfl ?_
            obtain ⟨o14, e14, h⟩ := zbind h
            refine g_cvI (pc := 125)  (st := []) (w' := (zwX c q x)) hX zk_Jo_latestMoveOf zs_Jo_latestMoveOf zL_EL_281 (c_Jo_latestMoveOf c q x.2.2.2.2.1.1.1.1.1 l1 e14) rfl rfl rfl rfl (sp_EL_Jo_7 c q x) (sp_EL_Jo_7 c q x).symm 7 4 rfl rfl rfl d_EL_replayed_125 ?_
            obtain rfl := Option.some.inj h
            exact g_iret (pc := 128) hX hR d_EL_replayed_128
          rw [if_neg c13] at h
          by_cases c15 : l2 = (4 : Int32)
          · rw [if_pos c15] at h
            refine g_tswIn (pc := 46) (tgt := 129) (off := 83) hX d_EL_replayed_46 (4 : Int32) c15 (by decide) (by decide) rfl (by decide) ?_
            refine g_aload_n (pc := 129) hX d_EL_replayed_129 rfl 0 rfl ?_
            refine gf_EL_10 (pc := 130) (v := .ref ((q 12))) hX 3 rfl rfl d_EL_replayed_130 ?_
            refine gf_EL_257 (pc := 133) (v := .ref ((q 0))) hX 19 rfl rfl d_EL_replayed_133 ?_
            refine g_bipush (pc := 136) hX d_EL_replayed_136 ze_8 ?_
            refine g_iload_n (pc := 138) hX d_EL_replayed_138 rfl 1 rfl ?_
            obtain ⟨o16, e16, h⟩ := zbind h
            refine g_cvI (pc := 139)  (st := []) (w' := (zwX c q x)) hX zk_Jo_numberOf zs_Jo_numberOf zL_EL_276 (c_Jo_numberOf c q x.2.2.2.2.1.1.1.1.1 ((8 : Int32)) l1 e16) rfl rfl rfl rfl (sp_EL_Jo_7 c q x) (sp_EL_Jo_7 c q x).symm 7 4 rfl rfl rfl d_EL_replayed_139 ?_
            obtain rfl := Option.some.inj h
            exact g_iret (pc := 142) hX hR d_EL_replayed_142
          rw [if_neg c15] at h
          refine g_tswOut (pc := 46) (tgt := 143) hX d_EL_replayed_46 (by have a7 := lv_neT c7 (a := 0) (by decide); have a9 := lv_neT c9 (a := 1) (by decide); have a11 := lv_neT c11 (a := 2) (by decide); have a13 := lv_neT c13 (a := 3) (by decide); have a15 := lv_neT c15 (a := 4) (by decide); omega) (by decide) ?_
          refine g_aload_n (pc := 143) hX d_EL_replayed_143 rfl 0 rfl ?_
          refine gf_EL_10 (pc := 144) (v := .ref ((q 12))) hX 3 rfl rfl d_EL_replayed_144 ?_
          refine gf_EL_257 (pc := 147) (v := .ref ((q 0))) hX 19 rfl rfl d_EL_replayed_147 ?_
          refine g_iconst (pc := 150) hX d_EL_replayed_150 zc_3 ?_
          refine g_iload_n (pc := 151) hX d_EL_replayed_151 rfl 1 rfl ?_
          obtain ⟨o17, e17, h⟩ := zbind h
          refine g_cvI (pc := 152)  (st := []) (w' := (zwX c q x)) hX zk_Jo_numberOf zs_Jo_numberOf zL_EL_276 (c_Jo_numberOf c q x.2.2.2.2.1.1.1.1.1 ((3 : Int32)) l1 e17) rfl rfl rfl rfl (sp_EL_Jo_7 c q x) (sp_EL_Jo_7 c q x).symm 7 4 rfl rfl rfl d_EL_replayed_152 ?_
          obtain rfl := Option.some.inj h
          exact g_iret (pc := 155) hX hR d_EL_replayed_155
        · refine g_aload_n (pc := 38) hX d_EL_replayed_38 rfl 0 rfl ?_
          refine g_bipush (pc := 39) hX d_EL_replayed_39 ze_10 ?_
          obtain ⟨o18, e18, h⟩ := zbind h
          refine g_cvI (pc := 41) (w1 := []) (w2 := []) (st := []) (w' := (zwX c q o18.2)) hX zk_EL_refuse zs_EL_refuse zL_EL_55 (c_EL_refuse c q x ((10 : Int32)) e18) rfl rfl rfl rfl (zself _) (zself _).symm 3 9 rfl rfl rfl d_EL_replayed_41 ?_
          obtain rfl := Option.some.inj h
          exact g_iret (pc := 44) hX hR d_EL_replayed_44
      · refine g_iconst (pc := 23) hX d_EL_replayed_23 zc_m1 ?_
        obtain rfl := Option.some.inj h
        exact g_iret (pc := 24) hX hR d_EL_replayed_24)
theorem d_EL_reason_0 : decode zb_EL_reason 0 = .ok (.aload_n 0, 1) := by decide +kernel
theorem d_EL_reason_1 : decode zb_EL_reason 1 = .ok (.getfield 44, 3) := by decide +kernel
theorem d_EL_reason_4 : decode zb_EL_reason 4 = .ok (.ireturn, 1) := by decide +kernel
def k_EL_reason (x : zsX) : Option (Int32) := some x.2.2.1
set_option maxRecDepth 20000 in
theorem c_EL_reason (c : zY) (q : Nat → Nat) (x : zsX) {out : Int32} (h : k_EL_reason x = some out) : KM zy_EL_reason zb_EL_reason 1 (some .int) 0 c [.ref ((q 17))] (zwX c q x) (zwX c q x) (some (.int out)) := zK_of zp_EL rfl (Nat.le_of_ble_eq_true rfl) (zq_EL c q _ _) (fun X hX hR => by
  show Go X (zwX c q x) [(0, .ref ((q 17)))] 0 []
  rw [k_EL_reason] at h
  refine g_aload_n (pc := 0) hX d_EL_reason_0 rfl 0 rfl ?_
  refine gf_EL_44 (pc := 1) (v := .int x.2.2.1) hX 3 rfl rfl d_EL_reason_1 ?_
  obtain rfl := Option.some.inj h
  exact g_iret (pc := 4) hX hR d_EL_reason_4)
theorem d_EL_account_0 : decode zb_EL_account 0 = .ok (.iload_n 1, 1) := by decide +kernel
theorem d_EL_account_1 : decode zb_EL_account 1 = .ok (.tableswitch 176 0 10 #[59, 70, 81, 93, 105, 116, 127, 138, 149, 160, 168], 59) := by decide +kernel
theorem d_EL_account_60 : decode zb_EL_account 60 = .ok (.aload_n 0, 1) := by decide +kernel
theorem d_EL_account_61 : decode zb_EL_account 61 = .ok (.getfield 10, 3) := by decide +kernel
theorem d_EL_account_64 : decode zb_EL_account 64 = .ok (.getfield 59, 3) := by decide +kernel
theorem d_EL_account_67 : decode zb_EL_account 67 = .ok (.invokevirtual 63, 3) := by decide +kernel
theorem d_EL_account_70 : decode zb_EL_account 70 = .ok (.ireturn, 1) := by decide +kernel
theorem d_EL_account_71 : decode zb_EL_account 71 = .ok (.aload_n 0, 1) := by decide +kernel
theorem d_EL_account_72 : decode zb_EL_account 72 = .ok (.getfield 10, 3) := by decide +kernel
theorem d_EL_account_75 : decode zb_EL_account 75 = .ok (.getfield 59, 3) := by decide +kernel
theorem d_EL_account_78 : decode zb_EL_account 78 = .ok (.invokevirtual 284, 3) := by decide +kernel
theorem d_EL_account_81 : decode zb_EL_account 81 = .ok (.ireturn, 1) := by decide +kernel
theorem d_EL_account_82 : decode zb_EL_account 82 = .ok (.aload_n 0, 1) := by decide +kernel
theorem d_EL_account_83 : decode zb_EL_account 83 = .ok (.getfield 10, 3) := by decide +kernel
theorem d_EL_account_86 : decode zb_EL_account 86 = .ok (.getfield 59, 3) := by decide +kernel
theorem d_EL_account_89 : decode zb_EL_account 89 = .ok (.iconst 0, 1) := by decide +kernel
theorem d_EL_account_90 : decode zb_EL_account 90 = .ok (.invokevirtual 287, 3) := by decide +kernel
theorem d_EL_account_93 : decode zb_EL_account 93 = .ok (.ireturn, 1) := by decide +kernel
theorem d_EL_account_94 : decode zb_EL_account 94 = .ok (.aload_n 0, 1) := by decide +kernel
theorem d_EL_account_95 : decode zb_EL_account 95 = .ok (.getfield 10, 3) := by decide +kernel
theorem d_EL_account_98 : decode zb_EL_account 98 = .ok (.getfield 59, 3) := by decide +kernel
theorem d_EL_account_101 : decode zb_EL_account 101 = .ok (.iconst 1, 1) := by decide +kernel
theorem d_EL_account_102 : decode zb_EL_account 102 = .ok (.invokevirtual 287, 3) := by decide +kernel
theorem d_EL_account_105 : decode zb_EL_account 105 = .ok (.ireturn, 1) := by decide +kernel
theorem d_EL_account_106 : decode zb_EL_account 106 = .ok (.aload_n 0, 1) := by decide +kernel
theorem d_EL_account_107 : decode zb_EL_account 107 = .ok (.getfield 10, 3) := by decide +kernel
theorem d_EL_account_110 : decode zb_EL_account 110 = .ok (.getfield 59, 3) := by decide +kernel
theorem d_EL_account_113 : decode zb_EL_account 113 = .ok (.getfield 290, 3) := by decide +kernel
theorem d_EL_account_116 : decode zb_EL_account 116 = .ok (.ireturn, 1) := by decide +kernel
theorem d_EL_account_117 : decode zb_EL_account 117 = .ok (.aload_n 0, 1) := by decide +kernel
theorem d_EL_account_118 : decode zb_EL_account 118 = .ok (.getfield 10, 3) := by decide +kernel
theorem d_EL_account_121 : decode zb_EL_account 121 = .ok (.getfield 59, 3) := by decide +kernel
theorem d_EL_account_124 : decode zb_EL_account 124 = .ok (.getfield 293, 3) := by decide +kernel
theorem d_EL_account_127 : decode zb_EL_account 127 = .ok (.ireturn, 1) := by decide +kernel
theorem d_EL_account_128 : decode zb_EL_account 128 = .ok (.aload_n 0, 1) := by decide +kernel
theorem d_EL_account_129 : decode zb_EL_account 129 = .ok (.getfield 10, 3) := by decide +kernel
theorem d_EL_account_132 : decode zb_EL_account 132 = .ok (.getfield 97, 3) := by decide +kernel
theorem d_EL_account_135 : decode zb_EL_account 135 = .ok (.getfield 296, 3) := by decide +kernel
theorem d_EL_account_138 : decode zb_EL_account 138 = .ok (.ireturn, 1) := by decide +kernel
theorem d_EL_account_139 : decode zb_EL_account 139 = .ok (.aload_n 0, 1) := by decide +kernel
theorem d_EL_account_140 : decode zb_EL_account 140 = .ok (.getfield 10, 3) := by decide +kernel
theorem d_EL_account_143 : decode zb_EL_account 143 = .ok (.getfield 97, 3) := by decide +kernel
theorem d_EL_account_146 : decode zb_EL_account 146 = .ok (.getfield 299, 3) := by decide +kernel
theorem d_EL_account_149 : decode zb_EL_account 149 = .ok (.ireturn, 1) := by decide +kernel
theorem d_EL_account_150 : decode zb_EL_account 150 = .ok (.aload_n 0, 1) := by decide +kernel
theorem d_EL_account_151 : decode zb_EL_account 151 = .ok (.getfield 10, 3) := by decide +kernel
theorem d_EL_account_154 : decode zb_EL_account 154 = .ok (.getfield 97, 3) := by decide +kernel
theorem d_EL_account_157 : decode zb_EL_account 157 = .ok (.getfield 302, 3) := by decide +kernel
theorem d_EL_account_160 : decode zb_EL_account 160 = .ok (.ireturn, 1) := by decide +kernel
theorem d_EL_account_161 : decode zb_EL_account 161 = .ok (.aload_n 0, 1) := by decide +kernel
theorem d_EL_account_162 : decode zb_EL_account 162 = .ok (.getfield 10, 3) := by decide +kernel
theorem d_EL_account_165 : decode zb_EL_account 165 = .ok (.invokevirtual 305, 3) := by decide +kernel
theorem d_EL_account_168 : decode zb_EL_account 168 = .ok (.ireturn, 1) := by decide +kernel
theorem d_EL_account_169 : decode zb_EL_account 169 = .ok (.aload_n 0, 1) := by decide +kernel
theorem d_EL_account_170 : decode zb_EL_account 170 = .ok (.getfield 10, 3) := by decide +kernel
theorem d_EL_account_173 : decode zb_EL_account 173 = .ok (.getfield 214, 3) := by decide +kernel
theorem d_EL_account_176 : decode zb_EL_account 176 = .ok (.ireturn, 1) := by decide +kernel
theorem d_EL_account_177 : decode zb_EL_account 177 = .ok (.iconst (-1), 1) := by decide +kernel
theorem d_EL_account_178 : decode zb_EL_account 178 = .ok (.ireturn, 1) := by decide +kernel
def k_EL_account (x : zsX) (l1 : Int32) : Option (Int32) := (if l1 = (0 : Int32) then (k_Fi_size x.2.2.2.2.1.1.1).bind fun o2 => some o2 else (if l1 = (1 : Int32) then (k_Fi_numberDown x.2.2.2.2.1.1.1).bind fun o4 => some o4 else (if l1 = (2 : Int32) then (k_Fi_livesOf x.2.2.2.2.1.1.1 ((0 : Int32))).bind fun o6 => some o6 else (if l1 = (3 : Int32) then (k_Fi_livesOf x.2.2.2.2.1.1.1 ((1 : Int32))).bind fun o8 => some o8 else (if l1 = (4 : Int32) then some ((x.2.2.2.2.1.1.1.2.2 3)) else (if l1 = (5 : Int32) then some ((x.2.2.2.2.1.1.1.2.2 4)) else (if l1 = (6 : Int32) then some ((x.2.2.2.2.1.1.2.2 8)) else (if l1 = (7 : Int32) then some ((x.2.2.2.2.1.1.2.2 9)) else (if l1 = (8 : Int32) then some ((x.2.2.2.2.1.1.2.2 10)) else (if l1 = (9 : Int32) then (k_St_numberOfWalls x.2.2.2.2.1).bind fun o15 => some o15 else (if l1 = (10 : Int32) then some x.2.2.2.2.1.2.2.2 else some ((-1 : Int32)))))))))))))
set_option maxRecDepth 20000 in
theorem c_EL_account (c : zY) (q : Nat → Nat) (x : zsX) (l1 : Int32) {out : Int32} (h : k_EL_account x l1 = some out) : KM zy_EL_account zb_EL_account 2 (some .int) 3 c [.ref ((q 17)), .int l1] (zwX c q x) (zwX c q x) (some (.int out)) := zK_of zp_EL rfl (Nat.le_of_ble_eq_true rfl) (zq_EL c q _ _) (fun X hX hR => by
  show Go X (zwX c q x) [(0, .ref ((q 17))), (1, .int l1)] 0 []
  rw [k_EL_account] at h
  refine g_iload_n (pc := 0) hX d_EL_account_0 rfl 1 rfl ?_
  by_cases c1 : l1 = (0 : Int32)
  · rw [if_pos c1] at h
    refine g_tswIn (pc := 1) (tgt := 60) (off := 59) hX d_EL_account_1 (0 : Int32) c1 (by decide) (by decide) rfl (by decide) ?_
    refine g_aload_n (pc := 60) hX d_EL_account_60 rfl 0 rfl ?_
    refine gf_EL_10 (pc := 61) (v := .ref ((q 12))) hX 3 rfl rfl d_EL_account_61 ?_
    refine gf_EL_59 (pc := 64) (v := .ref ((q 6))) hX 19 rfl rfl d_EL_account_64 ?_
    obtain ⟨o2, e2, h⟩ := zbind h
    refine g_cvI (pc := 67)  (st := []) (w' := (zwX c q x)) hX zk_Fi_size zs_Fi_size zL_EL_63 (c_Fi_size c q x.2.2.2.2.1.1.1 e2) rfl rfl rfl rfl (sp_EL_Fi_7 c q x) (sp_EL_Fi_7 c q x).symm 13 3 rfl rfl rfl d_EL_account_67 ?_
    obtain rfl := Option.some.inj h
    exact g_iret (pc := 70) hX hR d_EL_account_70
  rw [if_neg c1] at h
  by_cases c3 : l1 = (1 : Int32)
  · rw [if_pos c3] at h
    refine g_tswIn (pc := 1) (tgt := 71) (off := 70) hX d_EL_account_1 (1 : Int32) c3 (by decide) (by decide) rfl (by decide) ?_
    refine g_aload_n (pc := 71) hX d_EL_account_71 rfl 0 rfl ?_
    refine gf_EL_10 (pc := 72) (v := .ref ((q 12))) hX 3 rfl rfl d_EL_account_72 ?_
    refine gf_EL_59 (pc := 75) (v := .ref ((q 6))) hX 19 rfl rfl d_EL_account_75 ?_
    obtain ⟨o4, e4, h⟩ := zbind h
    refine g_cvI (pc := 78)  (st := []) (w' := (zwX c q x)) hX zk_Fi_numberDown zs_Fi_numberDown zL_EL_284 (c_Fi_numberDown c q x.2.2.2.2.1.1.1 e4) rfl rfl rfl rfl (sp_EL_Fi_7 c q x) (sp_EL_Fi_7 c q x).symm 13 3 rfl rfl rfl d_EL_account_78 ?_
    obtain rfl := Option.some.inj h
    exact g_iret (pc := 81) hX hR d_EL_account_81
  rw [if_neg c3] at h
  by_cases c5 : l1 = (2 : Int32)
  · rw [if_pos c5] at h
    refine g_tswIn (pc := 1) (tgt := 82) (off := 81) hX d_EL_account_1 (2 : Int32) c5 (by decide) (by decide) rfl (by decide) ?_
    refine g_aload_n (pc := 82) hX d_EL_account_82 rfl 0 rfl ?_
    refine gf_EL_10 (pc := 83) (v := .ref ((q 12))) hX 3 rfl rfl d_EL_account_83 ?_
    refine gf_EL_59 (pc := 86) (v := .ref ((q 6))) hX 19 rfl rfl d_EL_account_86 ?_
    refine g_iconst (pc := 89) hX d_EL_account_89 zc_0 ?_
    obtain ⟨o6, e6, h⟩ := zbind h
    refine g_cvI (pc := 90)  (st := []) (w' := (zwX c q x)) hX zk_Fi_livesOf zs_Fi_livesOf zL_EL_287 (c_Fi_livesOf c q x.2.2.2.2.1.1.1 ((0 : Int32)) e6) rfl rfl rfl rfl (sp_EL_Fi_7 c q x) (sp_EL_Fi_7 c q x).symm 13 3 rfl rfl rfl d_EL_account_90 ?_
    obtain rfl := Option.some.inj h
    exact g_iret (pc := 93) hX hR d_EL_account_93
  rw [if_neg c5] at h
  by_cases c7 : l1 = (3 : Int32)
  · rw [if_pos c7] at h
    refine g_tswIn (pc := 1) (tgt := 94) (off := 93) hX d_EL_account_1 (3 : Int32) c7 (by decide) (by decide) rfl (by decide) ?_
    refine g_aload_n (pc := 94) hX d_EL_account_94 rfl 0 rfl ?_
    refine gf_EL_10 (pc := 95) (v := .ref ((q 12))) hX 3 rfl rfl d_EL_account_95 ?_
    refine gf_EL_59 (pc := 98) (v := .ref ((q 6))) hX 19 rfl rfl d_EL_account_98 ?_
    refine g_iconst (pc := 101) hX d_EL_account_101 zc_1 ?_
    obtain ⟨o8, e8, h⟩ := zbind h
    refine g_cvI (pc := 102)  (st := []) (w' := (zwX c q x)) hX zk_Fi_livesOf zs_Fi_livesOf zL_EL_287 (c_Fi_livesOf c q x.2.2.2.2.1.1.1 ((1 : Int32)) e8) rfl rfl rfl rfl (sp_EL_Fi_7 c q x) (sp_EL_Fi_7 c q x).symm 13 3 rfl rfl rfl d_EL_account_102 ?_
    obtain rfl := Option.some.inj h
    exact g_iret (pc := 105) hX hR d_EL_account_105
  rw [if_neg c7] at h
  by_cases c9 : l1 = (4 : Int32)
  · rw [if_pos c9] at h
    refine g_tswIn (pc := 1) (tgt := 106) (off := 105) hX d_EL_account_1 (4 : Int32) c9 (by decide) (by decide) rfl (by decide) ?_
    refine g_aload_n (pc := 106) hX d_EL_account_106 rfl 0 rfl ?_
    refine gf_EL_10 (pc := 107) (v := .ref ((q 12))) hX 3 rfl rfl d_EL_account_107 ?_
    refine gf_EL_59 (pc := 110) (v := .ref ((q 6))) hX 19 rfl rfl d_EL_account_110 ?_
    refine gf_EL_290 (pc := 113) (v := .int ((x.2.2.2.2.1.1.1.2.2 3))) hX 13 rfl rfl d_EL_account_113 ?_
    obtain rfl := Option.some.inj h
    exact g_iret (pc := 116) hX hR d_EL_account_116
  rw [if_neg c9] at h
  by_cases c10 : l1 = (5 : Int32)
  · rw [if_pos c10] at h
    refine g_tswIn (pc := 1) (tgt := 117) (off := 116) hX d_EL_account_1 (5 : Int32) c10 (by decide) (by decide) rfl (by decide) ?_
    refine g_aload_n (pc := 117) hX d_EL_account_117 rfl 0 rfl ?_
    refine gf_EL_10 (pc := 118) (v := .ref ((q 12))) hX 3 rfl rfl d_EL_account_118 ?_
    refine gf_EL_59 (pc := 121) (v := .ref ((q 6))) hX 19 rfl rfl d_EL_account_121 ?_
    refine gf_EL_293 (pc := 124) (v := .int ((x.2.2.2.2.1.1.1.2.2 4))) hX 13 rfl rfl d_EL_account_124 ?_
    obtain rfl := Option.some.inj h
    exact g_iret (pc := 127) hX hR d_EL_account_127
  rw [if_neg c10] at h
  by_cases c11 : l1 = (6 : Int32)
  · rw [if_pos c11] at h
    refine g_tswIn (pc := 1) (tgt := 128) (off := 127) hX d_EL_account_1 (6 : Int32) c11 (by decide) (by decide) rfl (by decide) ?_
    refine g_aload_n (pc := 128) hX d_EL_account_128 rfl 0 rfl ?_
    refine gf_EL_10 (pc := 129) (v := .ref ((q 12))) hX 3 rfl rfl d_EL_account_129 ?_
    refine gf_EL_97 (pc := 132) (v := .ref ((q 9))) hX 19 rfl rfl d_EL_account_132 ?_
    refine gf_EL_296 (pc := 135) (v := .int ((x.2.2.2.2.1.1.2.2 8))) hX 16 rfl rfl d_EL_account_135 ?_
    obtain rfl := Option.some.inj h
    exact g_iret (pc := 138) hX hR d_EL_account_138
  rw [if_neg c11] at h
  by_cases c12 : l1 = (7 : Int32)
  · rw [if_pos c12] at h
    refine g_tswIn (pc := 1) (tgt := 139) (off := 138) hX d_EL_account_1 (7 : Int32) c12 (by decide) (by decide) rfl (by decide) ?_
    refine g_aload_n (pc := 139) hX d_EL_account_139 rfl 0 rfl ?_
    refine gf_EL_10 (pc := 140) (v := .ref ((q 12))) hX 3 rfl rfl d_EL_account_140 ?_
    refine gf_EL_97 (pc := 143) (v := .ref ((q 9))) hX 19 rfl rfl d_EL_account_143 ?_
    refine gf_EL_299 (pc := 146) (v := .int ((x.2.2.2.2.1.1.2.2 9))) hX 16 rfl rfl d_EL_account_146 ?_
    obtain rfl := Option.some.inj h
    exact g_iret (pc := 149) hX hR d_EL_account_149
  rw [if_neg c12] at h
  by_cases c13 : l1 = (8 : Int32)
  · rw [if_pos c13] at h
    refine g_tswIn (pc := 1) (tgt := 150) (off := 149) hX d_EL_account_1 (8 : Int32) c13 (by decide) (by decide) rfl (by decide) ?_
    refine g_aload_n (pc := 150) hX d_EL_account_150 rfl 0 rfl ?_
    refine gf_EL_10 (pc := 151) (v := .ref ((q 12))) hX 3 rfl rfl d_EL_account_151 ?_
    refine gf_EL_97 (pc := 154) (v := .ref ((q 9))) hX 19 rfl rfl d_EL_account_154 ?_
    refine gf_EL_302 (pc := 157) (v := .int ((x.2.2.2.2.1.1.2.2 10))) hX 16 rfl rfl d_EL_account_157 ?_
    obtain rfl := Option.some.inj h
    exact g_iret (pc := 160) hX hR d_EL_account_160
  rw [if_neg c13] at h
  by_cases c14 : l1 = (9 : Int32)
  · rw [if_pos c14] at h
    refine g_tswIn (pc := 1) (tgt := 161) (off := 160) hX d_EL_account_1 (9 : Int32) c14 (by decide) (by decide) rfl (by decide) ?_
    refine g_aload_n (pc := 161) hX d_EL_account_161 rfl 0 rfl ?_
    refine gf_EL_10 (pc := 162) (v := .ref ((q 12))) hX 3 rfl rfl d_EL_account_162 ?_
    obtain ⟨o15, e15, h⟩ := zbind h
    refine g_cvI (pc := 165)  (st := []) (w' := (zwX c q x)) hX zk_St_numberOfWalls zs_St_numberOfWalls zL_EL_305 (c_St_numberOfWalls c q x.2.2.2.2.1 e15) rfl rfl rfl rfl (sp_EL_St_7 c q x) (sp_EL_St_7 c q x).symm 19 5 rfl rfl rfl d_EL_account_165 ?_
    obtain rfl := Option.some.inj h
    exact g_iret (pc := 168) hX hR d_EL_account_168
  rw [if_neg c14] at h
  by_cases c16 : l1 = (10 : Int32)
  · rw [if_pos c16] at h
    refine g_tswIn (pc := 1) (tgt := 169) (off := 168) hX d_EL_account_1 (10 : Int32) c16 (by decide) (by decide) rfl (by decide) ?_
    refine g_aload_n (pc := 169) hX d_EL_account_169 rfl 0 rfl ?_
    refine gf_EL_10 (pc := 170) (v := .ref ((q 12))) hX 3 rfl rfl d_EL_account_170 ?_
    refine gf_EL_214 (pc := 173) (v := .int x.2.2.2.2.1.2.2.2) hX 19 rfl rfl d_EL_account_173 ?_
    obtain rfl := Option.some.inj h
    exact g_iret (pc := 176) hX hR d_EL_account_176
  rw [if_neg c16] at h
  refine g_tswOut (pc := 1) (tgt := 177) hX d_EL_account_1 (by have a1 := lv_neT c1 (a := 0) (by decide); have a3 := lv_neT c3 (a := 1) (by decide); have a5 := lv_neT c5 (a := 2) (by decide); have a7 := lv_neT c7 (a := 3) (by decide); have a9 := lv_neT c9 (a := 4) (by decide); have a10 := lv_neT c10 (a := 5) (by decide); have a11 := lv_neT c11 (a := 6) (by decide); have a12 := lv_neT c12 (a := 7) (by decide); have a13 := lv_neT c13 (a := 8) (by decide); have a14 := lv_neT c14 (a := 9) (by decide); have a16 := lv_neT c16 (a := 10) (by decide); omega) (by decide) ?_
  refine g_iconst (pc := 177) hX d_EL_account_177 zc_m1 ?_
  obtain rfl := Option.some.inj h
  exact g_iret (pc := 178) hX hR d_EL_account_178)
theorem d_EL_back_0 : decode zb_EL_back 0 = .ok (.aload_n 0, 1) := by decide +kernel
theorem d_EL_back_1 : decode zb_EL_back 1 = .ok (.getfield 22, 3) := by decide +kernel
theorem d_EL_back_4 : decode zb_EL_back 4 = .ok (.getfield 308, 3) := by decide +kernel
theorem d_EL_back_7 : decode zb_EL_back 7 = .ok (.ifCond .ne 10, 3) := by decide +kernel
theorem d_EL_back_10 : decode zb_EL_back 10 = .ok (.aload_n 0, 1) := by decide +kernel
theorem d_EL_back_11 : decode zb_EL_back 11 = .ok (.bipush 10, 2) := by decide +kernel
theorem d_EL_back_13 : decode zb_EL_back 13 = .ok (.invokevirtual 55, 3) := by decide +kernel
theorem d_EL_back_16 : decode zb_EL_back 16 = .ok (.ireturn, 1) := by decide +kernel
theorem d_EL_back_17 : decode zb_EL_back 17 = .ok (.aload_n 0, 1) := by decide +kernel
theorem d_EL_back_18 : decode zb_EL_back 18 = .ok (.getfield 22, 3) := by decide +kernel
theorem d_EL_back_21 : decode zb_EL_back 21 = .ok (.aload_n 0, 1) := by decide +kernel
theorem d_EL_back_22 : decode zb_EL_back 22 = .ok (.getfield 10, 3) := by decide +kernel
theorem d_EL_back_25 : decode zb_EL_back 25 = .ok (.invokevirtual 310, 3) := by decide +kernel
theorem d_EL_back_28 : decode zb_EL_back 28 = .ok (.aload_n 0, 1) := by decide +kernel
theorem d_EL_back_29 : decode zb_EL_back 29 = .ok (.getfield 22, 3) := by decide +kernel
theorem d_EL_back_32 : decode zb_EL_back 32 = .ok (.getfield 308, 3) := by decide +kernel
theorem d_EL_back_35 : decode zb_EL_back 35 = .ok (.ireturn, 1) := by decide +kernel
def k_EL_back (x : zsX) : Option (Int32 × zsX) := (if x.2.2.2.2.2.1.2.1 = 0 then (k_EL_refuse x ((10 : Int32))).bind fun o3 => some (o3.1, o3.2) else (k_Ch_takeBack (x.2.2.2.2.1, x.2.2.2.2.2.1)).bind fun o2 => some (o2.2.2.1, (x.1, x.2.1, x.2.2.1, x.2.2.2.1, o2.1, o2.2, x.2.2.2.2.2.2)))
set_option maxRecDepth 20000 in
theorem c_EL_back (c : zY) (q : Nat → Nat) (x : zsX) {out : Int32 × zsX} (h : k_EL_back x = some out) : KM zy_EL_back zb_EL_back 1 (some .int) 5 c [.ref ((q 17))] (zwX c q x) (zwX c q out.2) (some (.int out.1)) := zK_of zp_EL rfl (Nat.le_of_ble_eq_true rfl) (zq_EL c q _ _) (fun X hX hR => by
  show Go X (zwX c q x) [(0, .ref ((q 17)))] 0 []
  rw [k_EL_back] at h
  refine g_aload_n (pc := 0) hX d_EL_back_0 rfl 0 rfl ?_
  refine gf_EL_22 (pc := 1) (v := .ref ((q 24))) hX 3 rfl rfl d_EL_back_1 ?_
  refine gf_EL_308 (pc := 4) (v := .int x.2.2.2.2.2.1.2.1) hX 24 rfl rfl d_EL_back_4 ?_
  refine g_if_ne (pc := 7) (tgt := 17) hX d_EL_back_7 (by decide) h (fun c1 h => ?_) (fun c1 h => ?_)
  · refine g_aload_n (pc := 17) hX d_EL_back_17 rfl 0 rfl ?_
    refine gf_EL_22 (pc := 18) (v := .ref ((q 24))) hX 3 rfl rfl d_EL_back_18 ?_
    refine g_aload_n (pc := 21) hX d_EL_back_21 rfl 0 rfl ?_
    refine gf_EL_10 (pc := 22) (v := .ref ((q 12))) hX 3 rfl rfl d_EL_back_22 ?_
    obtain ⟨o2, e2, h⟩ := zbind h
    refine g_cvV (pc := 25) (st := []) (w' := (zwX c q ((x.1, x.2.1, x.2.2.1, x.2.2.2.1, o2.1, o2.2, x.2.2.2.2.2.2)))) hX zk_Ch_takeBack zs_Ch_takeBack zL_EL_310 (c_Ch_takeBack c q (x.2.2.2.2.1, x.2.2.2.2.2.1) e2) rfl rfl rfl rfl (sp_KN c q x) (sq_KT c q x o2) 24 0 rfl rfl rfl d_EL_back_25 ?_
    refine g_aload_n (pc := 28) hX d_EL_back_28 rfl 0 rfl ?_
    refine gf_EL_22 (pc := 29) (v := .ref ((q 24))) hX 3 rfl rfl d_EL_back_29 ?_
    refine gf_EL_308 (pc := 32) (v := .int o2.2.2.1) hX 24 rfl rfl d_EL_back_32 ?_
    obtain rfl := Option.some.inj h
    exact g_iret (pc := 35) hX hR d_EL_back_35
  · refine g_aload_n (pc := 10) hX d_EL_back_10 rfl 0 rfl ?_
    refine g_bipush (pc := 11) hX d_EL_back_11 ze_10 ?_
    obtain ⟨o3, e3, h⟩ := zbind h
    refine g_cvI (pc := 13) (w1 := []) (w2 := []) (st := []) (w' := (zwX c q o3.2)) hX zk_EL_refuse zs_EL_refuse zL_EL_55 (c_EL_refuse c q x ((10 : Int32)) e3) rfl rfl rfl rfl (zself _) (zself _).symm 3 9 rfl rfl rfl d_EL_back_13 ?_
    obtain rfl := Option.some.inj h
    exact g_iret (pc := 16) hX hR d_EL_back_16)
theorem d_EL_image_0 : decode zb_EL_image 0 = .ok (.aload_n 0, 1) := by decide +kernel
theorem d_EL_image_1 : decode zb_EL_image 1 = .ok (.getfield 16, 3) := by decide +kernel
theorem d_EL_image_4 : decode zb_EL_image 4 = .ok (.aload_n 0, 1) := by decide +kernel
theorem d_EL_image_5 : decode zb_EL_image 5 = .ok (.getfield 10, 3) := by decide +kernel
theorem d_EL_image_8 : decode zb_EL_image 8 = .ok (.invokevirtual 313, 3) := by decide +kernel
theorem d_EL_image_11 : decode zb_EL_image 11 = .ok (.aload_n 0, 1) := by decide +kernel
theorem d_EL_image_12 : decode zb_EL_image 12 = .ok (.iconst 1, 1) := by decide +kernel
theorem d_EL_image_13 : decode zb_EL_image 13 = .ok (.putfield 40, 3) := by decide +kernel
theorem d_EL_image_16 : decode zb_EL_image 16 = .ok (.aload_n 0, 1) := by decide +kernel
theorem d_EL_image_17 : decode zb_EL_image 17 = .ok (.getfield 10, 3) := by decide +kernel
theorem d_EL_image_20 : decode zb_EL_image 20 = .ok (.getfield 59, 3) := by decide +kernel
theorem d_EL_image_23 : decode zb_EL_image 23 = .ok (.invokevirtual 63, 3) := by decide +kernel
theorem d_EL_image_26 : decode zb_EL_image 26 = .ok (.ireturn, 1) := by decide +kernel
def k_EL_image (x : zsX) : Option (Int32 × zsX) := (k_St_become x.2.2.2.2.1 x.2.2.2.2.2.2).bind fun o1 => (k_Fi_size x.2.2.2.2.1.1.1).bind fun o2 => some (o2, (x.1, (1 : Int32), x.2.2.1, x.2.2.2.1, x.2.2.2.2.1, x.2.2.2.2.2.1, o1))
set_option maxRecDepth 20000 in
theorem c_EL_image (c : zY) (q : Nat → Nat) (x : zsX) {out : Int32 × zsX} (h : k_EL_image x = some out) : KM zy_EL_image zb_EL_image 1 (some .int) 4 c [.ref ((q 17))] (zwX c q x) (zwX c q out.2) (some (.int out.1)) := zK_of zp_EL rfl (Nat.le_of_ble_eq_true rfl) (zq_EL c q _ _) (fun X hX hR => by
  show Go X (zwX c q x) [(0, .ref ((q 17)))] 0 []
  rw [k_EL_image] at h
  refine g_aload_n (pc := 0) hX d_EL_image_0 rfl 0 rfl ?_
  refine gf_EL_16 (pc := 1) (v := .ref ((q 38))) hX 3 rfl rfl d_EL_image_1 ?_
  refine g_aload_n (pc := 4) hX d_EL_image_4 rfl 0 rfl ?_
  refine gf_EL_10 (pc := 5) (v := .ref ((q 12))) hX 3 rfl rfl d_EL_image_5 ?_
  obtain ⟨o1, e1, h⟩ := zbind h
  refine zperm (zpi c q x) ?_
  refine g_cvV (pc := 8) (w1 := []) (w2 := (zuA c q x ++ zwK c q x.2.2.2.2.2.1)) (st := []) (w' := zwSS c (fun i => q (i + 26)) q x.2.2.2.2.1 o1 ++ (zuA c q x ++ zwK c q x.2.2.2.2.2.1)) hX zk_St_become zs_St_become zL_EL_313 (c_St_become c (fun i => q (i + 26)) q x.2.2.2.2.1 x.2.2.2.2.2.2 e1) rfl rfl rfl rfl rfl rfl 12 5 rfl rfl rfl d_EL_image_8 ?_
  refine zperm (w' := (zwX c q ((x.1, x.2.1, x.2.2.1, x.2.2.2.1, x.2.2.2.2.1, x.2.2.2.2.2.1, o1)))) (zqi c q x o1) ?_
  refine g_aload_n (pc := 11) hX d_EL_image_11 rfl 0 rfl ?_
  refine g_iconst (pc := 12) hX d_EL_image_12 zc_1 ?_
  refine pf_EL_40 (pc := 13) (w2 := (zwX c q ((x.1, (1 : Int32), x.2.2.1, x.2.2.2.1, x.2.2.2.2.1, x.2.2.2.2.2.1, o1)))) hX (Or.inr rfl) 3 rfl rfl (su_EL_3_5 c q ((x.1, x.2.1, x.2.2.1, x.2.2.2.1, x.2.2.2.2.1, x.2.2.2.2.2.1, o1)) ((1 : Int32))) d_EL_image_13 ?_
  refine g_aload_n (pc := 16) hX d_EL_image_16 rfl 0 rfl ?_
  refine gf_EL_10 (pc := 17) (v := .ref ((q 12))) hX 3 rfl rfl d_EL_image_17 ?_
  refine gf_EL_59 (pc := 20) (v := .ref ((q 6))) hX 19 rfl rfl d_EL_image_20 ?_
  obtain ⟨o2, e2, h⟩ := zbind h
  refine g_cvI (pc := 23)  (st := []) (w' := (zwX c q ((x.1, (1 : Int32), x.2.2.1, x.2.2.2.1, x.2.2.2.2.1, x.2.2.2.2.2.1, o1)))) hX zk_Fi_size zs_Fi_size zL_EL_63 (c_Fi_size c q x.2.2.2.2.1.1.1 e2) rfl rfl rfl rfl (sp_EL_Fi_7 c q ((x.1, (1 : Int32), x.2.2.1, x.2.2.2.1, x.2.2.2.2.1, x.2.2.2.2.2.1, o1))) (sp_EL_Fi_7 c q ((x.1, (1 : Int32), x.2.2.1, x.2.2.2.1, x.2.2.2.2.1, x.2.2.2.2.2.1, o1))).symm 13 3 rfl rfl rfl d_EL_image_23 ?_
  obtain rfl := Option.some.inj h
  exact g_iret (pc := 26) hX hR d_EL_image_26)
theorem d_EL_undo_0 : decode zb_EL_undo 0 = .ok (.aload_n 0, 1) := by decide +kernel
theorem d_EL_undo_1 : decode zb_EL_undo 1 = .ok (.getfield 40, 3) := by decide +kernel
theorem d_EL_undo_4 : decode zb_EL_undo 4 = .ok (.ifCond .ne 10, 3) := by decide +kernel
theorem d_EL_undo_7 : decode zb_EL_undo 7 = .ok (.aload_n 0, 1) := by decide +kernel
theorem d_EL_undo_8 : decode zb_EL_undo 8 = .ok (.bipush 10, 2) := by decide +kernel
theorem d_EL_undo_10 : decode zb_EL_undo 10 = .ok (.invokevirtual 55, 3) := by decide +kernel
theorem d_EL_undo_13 : decode zb_EL_undo 13 = .ok (.ireturn, 1) := by decide +kernel
theorem d_EL_undo_14 : decode zb_EL_undo 14 = .ok (.aload_n 0, 1) := by decide +kernel
theorem d_EL_undo_15 : decode zb_EL_undo 15 = .ok (.getfield 10, 3) := by decide +kernel
theorem d_EL_undo_18 : decode zb_EL_undo 18 = .ok (.aload_n 0, 1) := by decide +kernel
theorem d_EL_undo_19 : decode zb_EL_undo 19 = .ok (.getfield 16, 3) := by decide +kernel
theorem d_EL_undo_22 : decode zb_EL_undo 22 = .ok (.invokevirtual 313, 3) := by decide +kernel
theorem d_EL_undo_25 : decode zb_EL_undo 25 = .ok (.aload_n 0, 1) := by decide +kernel
theorem d_EL_undo_26 : decode zb_EL_undo 26 = .ok (.getfield 22, 3) := by decide +kernel
theorem d_EL_undo_29 : decode zb_EL_undo 29 = .ok (.invokevirtual 316, 3) := by decide +kernel
theorem d_EL_undo_32 : decode zb_EL_undo 32 = .ok (.aload_n 0, 1) := by decide +kernel
theorem d_EL_undo_33 : decode zb_EL_undo 33 = .ok (.getfield 10, 3) := by decide +kernel
theorem d_EL_undo_36 : decode zb_EL_undo 36 = .ok (.getfield 59, 3) := by decide +kernel
theorem d_EL_undo_39 : decode zb_EL_undo 39 = .ok (.invokevirtual 63, 3) := by decide +kernel
theorem d_EL_undo_42 : decode zb_EL_undo 42 = .ok (.ireturn, 1) := by decide +kernel
def k_EL_undo (x : zsX) : Option (Int32 × zsX) := (if x.2.1 = 0 then (k_EL_refuse x ((10 : Int32))).bind fun o5 => some (o5.1, o5.2) else (k_St_become x.2.2.2.2.2.2 x.2.2.2.2.1).bind fun o2 => (k_Ch_forget x.2.2.2.2.2.1).bind fun o3 => (k_Fi_size o2.1.1).bind fun o4 => some (o4, (x.1, x.2.1, x.2.2.1, x.2.2.2.1, o2, o3, x.2.2.2.2.2.2)))
set_option maxRecDepth 20000 in
theorem c_EL_undo (c : zY) (q : Nat → Nat) (x : zsX) {out : Int32 × zsX} (h : k_EL_undo x = some out) : KM zy_EL_undo zb_EL_undo 1 (some .int) 4 c [.ref ((q 17))] (zwX c q x) (zwX c q out.2) (some (.int out.1)) := zK_of zp_EL rfl (Nat.le_of_ble_eq_true rfl) (zq_EL c q _ _) (fun X hX hR => by
  show Go X (zwX c q x) [(0, .ref ((q 17)))] 0 []
  rw [k_EL_undo] at h
  refine g_aload_n (pc := 0) hX d_EL_undo_0 rfl 0 rfl ?_
  refine gf_EL_40 (pc := 1) (v := .int x.2.1) hX 3 rfl rfl d_EL_undo_1 ?_
  refine g_if_ne (pc := 4) (tgt := 14) hX d_EL_undo_4 (by decide) h (fun c1 h => ?_) (fun c1 h => ?_)
  · refine g_aload_n (pc := 14) hX d_EL_undo_14 rfl 0 rfl ?_
    refine gf_EL_10 (pc := 15) (v := .ref ((q 12))) hX 3 rfl rfl d_EL_undo_15 ?_
    refine g_aload_n (pc := 18) hX d_EL_undo_18 rfl 0 rfl ?_
    refine gf_EL_16 (pc := 19) (v := .ref ((q 38))) hX 3 rfl rfl d_EL_undo_19 ?_
    obtain ⟨o2, e2, h⟩ := zbind h
    refine zperm (zpj c q x) ?_
    refine g_cvV (pc := 22) (w1 := []) (w2 := (zuA c q x ++ zwK c q x.2.2.2.2.2.1)) (st := []) (w' := zwSS c q (fun i => q (i + 26)) x.2.2.2.2.2.2 o2 ++ (zuA c q x ++ zwK c q x.2.2.2.2.2.1)) hX zk_St_become zs_St_become zL_EL_313 (c_St_become c q (fun i => q (i + 26)) x.2.2.2.2.2.2 x.2.2.2.2.1 e2) rfl rfl rfl rfl rfl rfl 12 5 rfl rfl rfl d_EL_undo_22 ?_
    refine zperm (w' := (zwX c q ((x.1, x.2.1, x.2.2.1, x.2.2.2.1, o2, x.2.2.2.2.2.1, x.2.2.2.2.2.2)))) (zqj c q x o2) ?_
    refine g_aload_n (pc := 25) hX d_EL_undo_25 rfl 0 rfl ?_
    refine gf_EL_22 (pc := 26) (v := .ref ((q 24))) hX 3 rfl rfl d_EL_undo_26 ?_
    obtain ⟨o3, e3, h⟩ := zbind h
    refine g_cvV (pc := 29) (st := []) (w' := (zwX c q ((x.1, x.2.1, x.2.2.1, x.2.2.2.1, o2, o3, x.2.2.2.2.2.2)))) hX zk_Ch_forget zs_Ch_forget zL_EL_316 (c_Ch_forget c q x.2.2.2.2.2.1 e3) rfl rfl rfl rfl (sp_Ch c q ((x.1, x.2.1, x.2.2.1, x.2.2.2.1, o2, x.2.2.2.2.2.1, x.2.2.2.2.2.2))) (sq_Ch c q ((x.1, x.2.1, x.2.2.1, x.2.2.2.1, o2, x.2.2.2.2.2.1, x.2.2.2.2.2.2)) o3) 24 0 rfl rfl rfl d_EL_undo_29 ?_
    refine g_aload_n (pc := 32) hX d_EL_undo_32 rfl 0 rfl ?_
    refine gf_EL_10 (pc := 33) (v := .ref ((q 12))) hX 3 rfl rfl d_EL_undo_33 ?_
    refine gf_EL_59 (pc := 36) (v := .ref ((q 6))) hX 19 rfl rfl d_EL_undo_36 ?_
    obtain ⟨o4, e4, h⟩ := zbind h
    refine g_cvI (pc := 39)  (st := []) (w' := (zwX c q ((x.1, x.2.1, x.2.2.1, x.2.2.2.1, o2, o3, x.2.2.2.2.2.2)))) hX zk_Fi_size zs_Fi_size zL_EL_63 (c_Fi_size c q o2.1.1 e4) rfl rfl rfl rfl (sp_EL_Fi_7 c q ((x.1, x.2.1, x.2.2.1, x.2.2.2.1, o2, o3, x.2.2.2.2.2.2))) (sp_EL_Fi_7 c q ((x.1, x.2.1, x.2.2.1, x.2.2.2.1, o2, o3, x.2.2.2.2.2.2))).symm 13 3 rfl rfl rfl d_EL_undo_39 ?_
    obtain rfl := Option.some.inj h
    exact g_iret (pc := 42) hX hR d_EL_undo_42
  · refine g_aload_n (pc := 7) hX d_EL_undo_7 rfl 0 rfl ?_
    refine g_bipush (pc := 8) hX d_EL_undo_8 ze_10 ?_
    obtain ⟨o5, e5, h⟩ := zbind h
    refine g_cvI (pc := 10) (w1 := []) (w2 := []) (st := []) (w' := (zwX c q o5.2)) hX zk_EL_refuse zs_EL_refuse zL_EL_55 (c_EL_refuse c q x ((10 : Int32)) e5) rfl rfl rfl rfl (zself _) (zself _).symm 3 9 rfl rfl rfl d_EL_undo_10 ?_
    obtain rfl := Option.some.inj h
    exact g_iret (pc := 13) hX hR d_EL_undo_13)
theorem d_EL_setOfPowers_0 : decode zb_EL_setOfPowers 0 = .ok (.iconst 0, 1) := by decide +kernel
theorem d_EL_setOfPowers_1 : decode zb_EL_setOfPowers 1 = .ok (.istore_n 1, 1) := by decide +kernel
theorem d_EL_setOfPowers_2 : decode zb_EL_setOfPowers 2 = .ok (.iconst 0, 1) := by decide +kernel
theorem d_EL_setOfPowers_3 : decode zb_EL_setOfPowers 3 = .ok (.istore_n 2, 1) := by decide +kernel
theorem d_EL_setOfPowers_4 : decode zb_EL_setOfPowers 4 = .ok (.iload_n 2, 1) := by decide +kernel
theorem d_EL_setOfPowers_5 : decode zb_EL_setOfPowers 5 = .ok (.aload_n 0, 1) := by decide +kernel
theorem d_EL_setOfPowers_6 : decode zb_EL_setOfPowers 6 = .ok (.getfield 10, 3) := by decide +kernel
theorem d_EL_setOfPowers_9 : decode zb_EL_setOfPowers 9 = .ok (.getfield 179, 3) := by decide +kernel
theorem d_EL_setOfPowers_12 : decode zb_EL_setOfPowers 12 = .ok (.invokevirtual 348, 3) := by decide +kernel
theorem d_EL_setOfPowers_15 : decode zb_EL_setOfPowers 15 = .ok (.if_icmp .ge 30, 3) := by decide +kernel
theorem d_EL_setOfPowers_18 : decode zb_EL_setOfPowers 18 = .ok (.aload_n 0, 1) := by decide +kernel
theorem d_EL_setOfPowers_19 : decode zb_EL_setOfPowers 19 = .ok (.getfield 10, 3) := by decide +kernel
theorem d_EL_setOfPowers_22 : decode zb_EL_setOfPowers 22 = .ok (.getfield 179, 3) := by decide +kernel
theorem d_EL_setOfPowers_25 : decode zb_EL_setOfPowers 25 = .ok (.iload_n 2, 1) := by decide +kernel
theorem d_EL_setOfPowers_26 : decode zb_EL_setOfPowers 26 = .ok (.iconst 2, 1) := by decide +kernel
theorem d_EL_setOfPowers_27 : decode zb_EL_setOfPowers 27 = .ok (.invokevirtual 84, 3) := by decide +kernel
theorem d_EL_setOfPowers_30 : decode zb_EL_setOfPowers 30 = .ok (.ifCond .le 9, 3) := by decide +kernel
theorem d_EL_setOfPowers_33 : decode zb_EL_setOfPowers 33 = .ok (.iload_n 1, 1) := by decide +kernel
theorem d_EL_setOfPowers_34 : decode zb_EL_setOfPowers 34 = .ok (.iconst 1, 1) := by decide +kernel
theorem d_EL_setOfPowers_35 : decode zb_EL_setOfPowers 35 = .ok (.iload_n 2, 1) := by decide +kernel
theorem d_EL_setOfPowers_36 : decode zb_EL_setOfPowers 36 = .ok (.ishl, 1) := by decide +kernel
theorem d_EL_setOfPowers_37 : decode zb_EL_setOfPowers 37 = .ok (.ior, 1) := by decide +kernel
theorem d_EL_setOfPowers_38 : decode zb_EL_setOfPowers 38 = .ok (.istore_n 1, 1) := by decide +kernel
theorem d_EL_setOfPowers_39 : decode zb_EL_setOfPowers 39 = .ok (.iinc 2 1, 3) := by decide +kernel
theorem d_EL_setOfPowers_42 : decode zb_EL_setOfPowers 42 = .ok (.goto (-38), 3) := by decide +kernel
theorem d_EL_setOfPowers_45 : decode zb_EL_setOfPowers 45 = .ok (.iload_n 1, 1) := by decide +kernel
theorem d_EL_setOfPowers_46 : decode zb_EL_setOfPowers 46 = .ok (.ireturn, 1) := by decide +kernel
def k_EL_setOfPowers_4 (x : zsX) : Nat → Int32 → Int32 → Option (Int32)
  | 0, _, _ => none
  | fu + 1, l1, l2 => (k_Ta_used 25 100 x.2.2.2.2.1.2.2.1).bind fun o1 => (if l2 < o1 then (k_Ta_get 25 100 x.2.2.2.2.1.2.2.1 l2 ((2 : Int32))).bind fun o3 => (if 0 < o3 then k_EL_setOfPowers_4 x fu ((l1 ||| ((1 : Int32) <<< (l2 &&& 31)))) ((l2 + (1 : Int32))) else k_EL_setOfPowers_4 x fu l1 ((l2 + (1 : Int32)))) else some l1)
set_option maxRecDepth 20000 in
theorem w_EL_setOfPowers_4 {X : zX} {c : zY} {q : Nat → Nat} {x : zsX} {out : Int32} (hX : Ok X zr_EL zb_EL_setOfPowers 3 1 c) (hR : Rt X (some .int) (some (.int out)) (zwX c q x)) : ∀ (fu : Nat) (l1 : Int32) (l2 : Int32), k_EL_setOfPowers_4 x fu l1 l2 = some out → Go X (zwX c q x) [(0, .ref ((q 17))), (1, .int l1), (2, .int l2)] 4 [] := by
  intro fu
  induction fu with
  | zero => intro l1 l2 h; rw [k_EL_setOfPowers_4] at h; cases h
  | succ fu ih =>
    intro l1 l2 h
    rw [k_EL_setOfPowers_4] at h
    refine g_iload_n (pc := 4) hX d_EL_setOfPowers_4 rfl 2 rfl ?_
    refine g_aload_n (pc := 5) hX d_EL_setOfPowers_5 rfl 0 rfl ?_
    refine gf_EL_10 (pc := 6) (v := .ref ((q 12))) hX 3 rfl rfl d_EL_setOfPowers_6 ?_
    refine gf_EL_179 (pc := 9) (v := .ref ((q 15))) hX 19 rfl rfl d_EL_setOfPowers_9 ?_
    obtain ⟨o1, e1, h⟩ := zbind h
    refine g_cvI (pc := 12)  (st := [.int l2]) (w' := (zwX c q x)) hX zk_Ta_used zs_Ta_used zL_EL_348 (c_Ta_used c (q 15) (q 16) 25 100 x.2.2.2.2.1.2.2.1 e1) rfl rfl rfl rfl (sp_EL_Ta_22 c q x) (sp_EL_Ta_22 c q x).symm 22 6 rfl rfl rfl d_EL_setOfPowers_12 ?_
    refine g_icmp_ge (pc := 15) (tgt := 45) hX d_EL_setOfPowers_15 (by decide) h (fun c2 h => ?_) (fun c2 h => ?_)
    · refine g_iload_n (pc := 45) hX d_EL_setOfPowers_45 rfl 1 rfl ?_
      obtain rfl := Option.some.inj h
      exact g_iret (pc := 46) hX hR d_EL_setOfPowers_46
    · refine g_aload_n (pc := 18) hX d_EL_setOfPowers_18 rfl 0 rfl ?_
      refine gf_EL_10 (pc := 19) (v := .ref ((q 12))) hX 3 rfl rfl d_EL_setOfPowers_19 ?_
      refine gf_EL_179 (pc := 22) (v := .ref ((q 15))) hX 19 rfl rfl d_EL_setOfPowers_22 ?_
      refine g_iload_n (pc := 25) hX d_EL_setOfPowers_25 rfl 2 rfl ?_
      refine g_iconst (pc := 26) hX d_EL_setOfPowers_26 zc_2 ?_
      obtain ⟨o3, e3, h⟩ := zbind h
      refine g_cvI (pc := 27)  (st := []) (w' := (zwX c q x)) hX zk_Ta_get zs_Ta_get zL_EL_84 (c_Ta_get c (q 15) (q 16) 25 100 x.2.2.2.2.1.2.2.1 l2 ((2 : Int32)) e3) rfl rfl rfl rfl (sp_EL_Ta_22 c q x) (sp_EL_Ta_22 c q x).symm 22 6 rfl rfl rfl d_EL_setOfPowers_27 ?_
      refine g_if_le (pc := 30) (tgt := 39) hX d_EL_setOfPowers_30 (by decide) h (fun c4 h => ?_) (fun c4 h => ?_)
      · refine g_iinc (pc := 39) (q := 2) (L' := [(2, .int ((l2 + (1 : Int32)))), (0, .ref ((q 17))), (1, .int l1)]) hX d_EL_setOfPowers_39 rfl zc_1 rfl rfl ?_
        refine g_goto (pc := 42) (tgt := 4) hX d_EL_setOfPowers_42 (by decide) ?_
        refine g_ls (L' := [(0, .ref ((q 17))), (1, .int l1), (2, .int ((l2 + (1 : Int32))))]) [1, 2, 0] rfl ?_
        exact ih _ _ h
      · refine g_iload_n (pc := 33) hX d_EL_setOfPowers_33 rfl 1 rfl ?_
        refine g_iconst (pc := 34) hX d_EL_setOfPowers_34 zc_1 ?_
        refine g_iload_n (pc := 35) hX d_EL_setOfPowers_35 rfl 2 rfl ?_
        refine g_ishl (pc := 36) hX d_EL_setOfPowers_36 ?_
        refine g_ior (pc := 37) hX d_EL_setOfPowers_37 ?_
        refine g_istore_n (pc := 38) (L' := [(1, .int ((l1 ||| ((1 : Int32) <<< (l2 &&& 31))))), (0, .ref ((q 17))), (2, .int l2)]) hX d_EL_setOfPowers_38 rfl rfl rfl ?_
        refine g_iinc (pc := 39) (q := 2) (L' := [(2, .int ((l2 + (1 : Int32)))), (1, .int ((l1 ||| ((1 : Int32) <<< (l2 &&& 31))))), (0, .ref ((q 17)))]) hX d_EL_setOfPowers_39 rfl zc_1 rfl rfl ?_
        refine g_goto (pc := 42) (tgt := 4) hX d_EL_setOfPowers_42 (by decide) ?_
        refine g_ls (L' := [(0, .ref ((q 17))), (1, .int ((l1 ||| ((1 : Int32) <<< (l2 &&& 31))))), (2, .int ((l2 + (1 : Int32))))]) [2, 1, 0] rfl ?_
        exact ih _ _ h
def k_EL_setOfPowers (x : zsX) : Option (Int32) := k_EL_setOfPowers_4 x zFu ((0 : Int32)) ((0 : Int32))
set_option maxRecDepth 20000 in
theorem c_EL_setOfPowers (c : zY) (q : Nat → Nat) (x : zsX) {out : Int32} (h : k_EL_setOfPowers x = some out) : KM zy_EL_setOfPowers zb_EL_setOfPowers 3 (some .int) 1 c [.ref ((q 17))] (zwX c q x) (zwX c q x) (some (.int out)) := zK_of zp_EL rfl (Nat.le_of_ble_eq_true rfl) (zq_EL c q _ _) (fun X hX hR => by
  show Go X (zwX c q x) [(0, .ref ((q 17)))] 0 []
  rw [k_EL_setOfPowers] at h
  refine g_iconst (pc := 0) hX d_EL_setOfPowers_0 zc_0 ?_
  refine g_istore_n (pc := 1) (L' := [(1, .int ((0 : Int32))), (0, .ref ((q 17)))]) hX d_EL_setOfPowers_1 rfl rfl rfl ?_
  refine g_iconst (pc := 2) hX d_EL_setOfPowers_2 zc_0 ?_
  refine g_istore_n (pc := 3) (L' := [(2, .int ((0 : Int32))), (1, .int ((0 : Int32))), (0, .ref ((q 17)))]) hX d_EL_setOfPowers_3 rfl rfl rfl ?_
  refine g_ls (L' := [(0, .ref ((q 17))), (1, .int ((0 : Int32))), (2, .int ((0 : Int32)))]) [2, 1, 0] rfl ?_
  exact w_EL_setOfPowers_4 hX hR _ _ _ h)
theorem d_EL_count_0 : decode zb_EL_count 0 = .ok (.iload_n 1, 1) := by decide +kernel
theorem d_EL_count_1 : decode zb_EL_count 1 = .ok (.tableswitch 48 0 2 #[27, 35, 43], 27) := by decide +kernel
theorem d_EL_count_28 : decode zb_EL_count 28 = .ok (.aload_n 0, 1) := by decide +kernel
theorem d_EL_count_29 : decode zb_EL_count 29 = .ok (.getfield 29, 3) := by decide +kernel
theorem d_EL_count_32 : decode zb_EL_count 32 = .ok (.getfield 176, 3) := by decide +kernel
theorem d_EL_count_35 : decode zb_EL_count 35 = .ok (.ireturn, 1) := by decide +kernel
theorem d_EL_count_36 : decode zb_EL_count 36 = .ok (.aload_n 0, 1) := by decide +kernel
theorem d_EL_count_37 : decode zb_EL_count 37 = .ok (.getfield 22, 3) := by decide +kernel
theorem d_EL_count_40 : decode zb_EL_count 40 = .ok (.getfield 308, 3) := by decide +kernel
theorem d_EL_count_43 : decode zb_EL_count 43 = .ok (.ireturn, 1) := by decide +kernel
theorem d_EL_count_44 : decode zb_EL_count 44 = .ok (.aload_n 0, 1) := by decide +kernel
theorem d_EL_count_45 : decode zb_EL_count 45 = .ok (.invokevirtual 319, 3) := by decide +kernel
theorem d_EL_count_48 : decode zb_EL_count 48 = .ok (.ireturn, 1) := by decide +kernel
theorem d_EL_count_49 : decode zb_EL_count 49 = .ok (.iconst (-1), 1) := by decide +kernel
theorem d_EL_count_50 : decode zb_EL_count 50 = .ok (.ireturn, 1) := by decide +kernel
def k_EL_count (x : zsX) (l1 : Int32) : Option (Int32) := (if l1 = (0 : Int32) then some x.1.2.2.1 else (if l1 = (1 : Int32) then some x.2.2.2.2.2.1.2.1 else (if l1 = (2 : Int32) then (k_EL_setOfPowers x).bind fun o4 => some o4 else some ((-1 : Int32)))))
set_option maxRecDepth 20000 in
theorem c_EL_count (c : zY) (q : Nat → Nat) (x : zsX) (l1 : Int32) {out : Int32} (h : k_EL_count x l1 = some out) : KM zy_EL_count zb_EL_count 2 (some .int) 2 c [.ref ((q 17)), .int l1] (zwX c q x) (zwX c q x) (some (.int out)) := zK_of zp_EL rfl (Nat.le_of_ble_eq_true rfl) (zq_EL c q _ _) (fun X hX hR => by
  show Go X (zwX c q x) [(0, .ref ((q 17))), (1, .int l1)] 0 []
  rw [k_EL_count] at h
  refine g_iload_n (pc := 0) hX d_EL_count_0 rfl 1 rfl ?_
  by_cases c1 : l1 = (0 : Int32)
  · rw [if_pos c1] at h
    refine g_tswIn (pc := 1) (tgt := 28) (off := 27) hX d_EL_count_1 (0 : Int32) c1 (by decide) (by decide) rfl (by decide) ?_
    refine g_aload_n (pc := 28) hX d_EL_count_28 rfl 0 rfl ?_
    refine gf_EL_29 (pc := 29) (v := .ref ((q 18))) hX 3 rfl rfl d_EL_count_29 ?_
    refine gf_EL_176 (pc := 32) (v := .int x.1.2.2.1) hX 0 rfl rfl d_EL_count_32 ?_
    obtain rfl := Option.some.inj h
    exact g_iret (pc := 35) hX hR d_EL_count_35
  rw [if_neg c1] at h
  by_cases c2 : l1 = (1 : Int32)
  · rw [if_pos c2] at h
    refine g_tswIn (pc := 1) (tgt := 36) (off := 35) hX d_EL_count_1 (1 : Int32) c2 (by decide) (by decide) rfl (by decide) ?_
    refine g_aload_n (pc := 36) hX d_EL_count_36 rfl 0 rfl ?_
    refine gf_EL_22 (pc := 37) (v := .ref ((q 24))) hX 3 rfl rfl d_EL_count_37 ?_
    refine gf_EL_308 (pc := 40) (v := .int x.2.2.2.2.2.1.2.1) hX 24 rfl rfl d_EL_count_40 ?_
    obtain rfl := Option.some.inj h
    exact g_iret (pc := 43) hX hR d_EL_count_43
  rw [if_neg c2] at h
  by_cases c3 : l1 = (2 : Int32)
  · rw [if_pos c3] at h
    refine g_tswIn (pc := 1) (tgt := 44) (off := 43) hX d_EL_count_1 (2 : Int32) c3 (by decide) (by decide) rfl (by decide) ?_
    refine g_aload_n (pc := 44) hX d_EL_count_44 rfl 0 rfl ?_
    obtain ⟨o4, e4, h⟩ := zbind h
    refine g_cvI (pc := 45) (w1 := []) (w2 := []) (st := []) (w' := (zwX c q x)) hX zk_EL_setOfPowers zs_EL_setOfPowers zL_EL_319 (c_EL_setOfPowers c q x e4) rfl rfl rfl rfl (zself _) (zself _).symm 3 9 rfl rfl rfl d_EL_count_45 ?_
    obtain rfl := Option.some.inj h
    exact g_iret (pc := 48) hX hR d_EL_count_48
  rw [if_neg c3] at h
  refine g_tswOut (pc := 1) (tgt := 49) hX d_EL_count_1 (by have a1 := lv_neT c1 (a := 0) (by decide); have a2 := lv_neT c2 (a := 1) (by decide); have a3 := lv_neT c3 (a := 2) (by decide); omega) (by decide) ?_
  refine g_iconst (pc := 49) hX d_EL_count_49 zc_m1 ?_
  obtain rfl := Option.some.inj h
  exact g_iret (pc := 50) hX hR d_EL_count_50)
