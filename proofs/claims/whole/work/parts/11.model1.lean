theorem d_Mo_add_0 : decode zb_Mo_add 0 = .ok (.iload_n 1, 1) := by decide +kernel
theorem d_Mo_add_1 : decode zb_Mo_add 1 = .ok (.iconst 0, 1) := by decide +kernel
theorem d_Mo_add_2 : decode zb_Mo_add 2 = .ok (.iconst 1, 1) := by decide +kernel
theorem d_Mo_add_3 : decode zb_Mo_add 3 = .ok (.invokestatic 84, 3) := by decide +kernel
theorem d_Mo_add_6 : decode zb_Mo_add 6 = .ok (.ifCond .eq 10, 3) := by decide +kernel
theorem d_Mo_add_9 : decode zb_Mo_add 9 = .ok (.iload_n 2, 1) := by decide +kernel
theorem d_Mo_add_10 : decode zb_Mo_add 10 = .ok (.invokestatic 166, 3) := by decide +kernel
theorem d_Mo_add_13 : decode zb_Mo_add 13 = .ok (.ifCond .ne 5, 3) := by decide +kernel
theorem d_Mo_add_16 : decode zb_Mo_add 16 = .ok (.iconst (-1), 1) := by decide +kernel
theorem d_Mo_add_17 : decode zb_Mo_add 17 = .ok (.ireturn, 1) := by decide +kernel
theorem d_Mo_add_18 : decode zb_Mo_add 18 = .ok (.iload_n 3, 1) := by decide +kernel
theorem d_Mo_add_19 : decode zb_Mo_add 19 = .ok (.iconst 1, 1) := by decide +kernel
theorem d_Mo_add_20 : decode zb_Mo_add 20 = .ok (.bipush 99, 2) := by decide +kernel
theorem d_Mo_add_22 : decode zb_Mo_add 22 = .ok (.invokestatic 84, 3) := by decide +kernel
theorem d_Mo_add_25 : decode zb_Mo_add 25 = .ok (.ifCond .eq 26, 3) := by decide +kernel
theorem d_Mo_add_28 : decode zb_Mo_add 28 = .ok (.iload 4, 2) := by decide +kernel
theorem d_Mo_add_30 : decode zb_Mo_add 30 = .ok (.bipush (-5), 2) := by decide +kernel
theorem d_Mo_add_32 : decode zb_Mo_add 32 = .ok (.bipush 9, 2) := by decide +kernel
theorem d_Mo_add_34 : decode zb_Mo_add 34 = .ok (.invokestatic 84, 3) := by decide +kernel
theorem d_Mo_add_37 : decode zb_Mo_add 37 = .ok (.ifCond .eq 14, 3) := by decide +kernel
theorem d_Mo_add_40 : decode zb_Mo_add 40 = .ok (.iload 5, 2) := by decide +kernel
theorem d_Mo_add_42 : decode zb_Mo_add 42 = .ok (.iconst 1, 1) := by decide +kernel
theorem d_Mo_add_43 : decode zb_Mo_add 43 = .ok (.bipush 9, 2) := by decide +kernel
theorem d_Mo_add_45 : decode zb_Mo_add 45 = .ok (.invokestatic 84, 3) := by decide +kernel
theorem d_Mo_add_48 : decode zb_Mo_add 48 = .ok (.ifCond .ne 6, 3) := by decide +kernel
theorem d_Mo_add_51 : decode zb_Mo_add 51 = .ok (.bipush (-2), 2) := by decide +kernel
theorem d_Mo_add_53 : decode zb_Mo_add 53 = .ok (.ireturn, 1) := by decide +kernel
theorem d_Mo_add_54 : decode zb_Mo_add 54 = .ok (.aload_n 0, 1) := by decide +kernel
theorem d_Mo_add_55 : decode zb_Mo_add 55 = .ok (.iload_n 2, 1) := by decide +kernel
theorem d_Mo_add_56 : decode zb_Mo_add 56 = .ok (.invokevirtual 169, 3) := by decide +kernel
theorem d_Mo_add_59 : decode zb_Mo_add 59 = .ok (.ifCond .ne 9, 3) := by decide +kernel
theorem d_Mo_add_62 : decode zb_Mo_add 62 = .ok (.aload_n 0, 1) := by decide +kernel
theorem d_Mo_add_63 : decode zb_Mo_add 63 = .ok (.iconst 5, 1) := by decide +kernel
theorem d_Mo_add_64 : decode zb_Mo_add 64 = .ok (.invokevirtual 172, 3) := by decide +kernel
theorem d_Mo_add_67 : decode zb_Mo_add 67 = .ok (.ireturn, 1) := by decide +kernel
theorem d_Mo_add_68 : decode zb_Mo_add 68 = .ok (.aload_n 0, 1) := by decide +kernel
theorem d_Mo_add_69 : decode zb_Mo_add 69 = .ok (.getfield 81, 3) := by decide +kernel
theorem d_Mo_add_72 : decode zb_Mo_add 72 = .ok (.bipush 8, 2) := by decide +kernel
theorem d_Mo_add_74 : decode zb_Mo_add 74 = .ok (.if_icmp .ne 6, 3) := by decide +kernel
theorem d_Mo_add_77 : decode zb_Mo_add 77 = .ok (.bipush (-4), 2) := by decide +kernel
theorem d_Mo_add_79 : decode zb_Mo_add 79 = .ok (.ireturn, 1) := by decide +kernel
theorem d_Mo_add_80 : decode zb_Mo_add 80 = .ok (.aload_n 0, 1) := by decide +kernel
theorem d_Mo_add_81 : decode zb_Mo_add 81 = .ok (.invokevirtual 175, 3) := by decide +kernel
theorem d_Mo_add_84 : decode zb_Mo_add 84 = .ok (.aload_n 0, 1) := by decide +kernel
theorem d_Mo_add_85 : decode zb_Mo_add 85 = .ok (.getfield 81, 3) := by decide +kernel
theorem d_Mo_add_88 : decode zb_Mo_add 88 = .ok (.istore 6, 2) := by decide +kernel
theorem d_Mo_add_90 : decode zb_Mo_add 90 = .ok (.aload_n 0, 1) := by decide +kernel
theorem d_Mo_add_91 : decode zb_Mo_add 91 = .ok (.getfield 13, 3) := by decide +kernel
theorem d_Mo_add_94 : decode zb_Mo_add 94 = .ok (.iload 6, 2) := by decide +kernel
theorem d_Mo_add_96 : decode zb_Mo_add 96 = .ok (.iload_n 1, 1) := by decide +kernel
theorem d_Mo_add_97 : decode zb_Mo_add 97 = .ok (.iastore, 1) := by decide +kernel
theorem d_Mo_add_98 : decode zb_Mo_add 98 = .ok (.aload_n 0, 1) := by decide +kernel
theorem d_Mo_add_99 : decode zb_Mo_add 99 = .ok (.getfield 16, 3) := by decide +kernel
theorem d_Mo_add_102 : decode zb_Mo_add 102 = .ok (.iload 6, 2) := by decide +kernel
theorem d_Mo_add_104 : decode zb_Mo_add 104 = .ok (.iload_n 2, 1) := by decide +kernel
theorem d_Mo_add_105 : decode zb_Mo_add 105 = .ok (.iastore, 1) := by decide +kernel
theorem d_Mo_add_106 : decode zb_Mo_add 106 = .ok (.aload_n 0, 1) := by decide +kernel
theorem d_Mo_add_107 : decode zb_Mo_add 107 = .ok (.getfield 19, 3) := by decide +kernel
theorem d_Mo_add_110 : decode zb_Mo_add 110 = .ok (.iload 6, 2) := by decide +kernel
theorem d_Mo_add_112 : decode zb_Mo_add 112 = .ok (.iload_n 3, 1) := by decide +kernel
theorem d_Mo_add_113 : decode zb_Mo_add 113 = .ok (.iastore, 1) := by decide +kernel
theorem d_Mo_add_114 : decode zb_Mo_add 114 = .ok (.aload_n 0, 1) := by decide +kernel
theorem d_Mo_add_115 : decode zb_Mo_add 115 = .ok (.getfield 22, 3) := by decide +kernel
theorem d_Mo_add_118 : decode zb_Mo_add 118 = .ok (.iload 6, 2) := by decide +kernel
theorem d_Mo_add_120 : decode zb_Mo_add 120 = .ok (.iload_n 3, 1) := by decide +kernel
theorem d_Mo_add_121 : decode zb_Mo_add 121 = .ok (.iastore, 1) := by decide +kernel
theorem d_Mo_add_122 : decode zb_Mo_add 122 = .ok (.aload_n 0, 1) := by decide +kernel
theorem d_Mo_add_123 : decode zb_Mo_add 123 = .ok (.getfield 25, 3) := by decide +kernel
theorem d_Mo_add_126 : decode zb_Mo_add 126 = .ok (.iload 6, 2) := by decide +kernel
theorem d_Mo_add_128 : decode zb_Mo_add 128 = .ok (.iload 4, 2) := by decide +kernel
theorem d_Mo_add_130 : decode zb_Mo_add 130 = .ok (.iastore, 1) := by decide +kernel
theorem d_Mo_add_131 : decode zb_Mo_add 131 = .ok (.aload_n 0, 1) := by decide +kernel
theorem d_Mo_add_132 : decode zb_Mo_add 132 = .ok (.getfield 28, 3) := by decide +kernel
theorem d_Mo_add_135 : decode zb_Mo_add 135 = .ok (.iload 6, 2) := by decide +kernel
theorem d_Mo_add_137 : decode zb_Mo_add 137 = .ok (.iload 5, 2) := by decide +kernel
theorem d_Mo_add_139 : decode zb_Mo_add 139 = .ok (.iastore, 1) := by decide +kernel
theorem d_Mo_add_140 : decode zb_Mo_add 140 = .ok (.aload_n 0, 1) := by decide +kernel
theorem d_Mo_add_141 : decode zb_Mo_add 141 = .ok (.getfield 31, 3) := by decide +kernel
theorem d_Mo_add_144 : decode zb_Mo_add 144 = .ok (.iload 6, 2) := by decide +kernel
theorem d_Mo_add_146 : decode zb_Mo_add 146 = .ok (.bipush (-5), 2) := by decide +kernel
theorem d_Mo_add_148 : decode zb_Mo_add 148 = .ok (.iastore, 1) := by decide +kernel
theorem d_Mo_add_149 : decode zb_Mo_add 149 = .ok (.iconst 0, 1) := by decide +kernel
theorem d_Mo_add_150 : decode zb_Mo_add 150 = .ok (.istore 7, 2) := by decide +kernel
theorem d_Mo_add_152 : decode zb_Mo_add 152 = .ok (.iload 7, 2) := by decide +kernel
theorem d_Mo_add_154 : decode zb_Mo_add 154 = .ok (.iconst 3, 1) := by decide +kernel
theorem d_Mo_add_155 : decode zb_Mo_add 155 = .ok (.if_icmp .ge 65, 3) := by decide +kernel
theorem d_Mo_add_158 : decode zb_Mo_add 158 = .ok (.aload_n 0, 1) := by decide +kernel
theorem d_Mo_add_159 : decode zb_Mo_add 159 = .ok (.getfield 37, 3) := by decide +kernel
theorem d_Mo_add_162 : decode zb_Mo_add 162 = .ok (.iconst 3, 1) := by decide +kernel
theorem d_Mo_add_163 : decode zb_Mo_add 163 = .ok (.iload 6, 2) := by decide +kernel
theorem d_Mo_add_165 : decode zb_Mo_add 165 = .ok (.imul, 1) := by decide +kernel
theorem d_Mo_add_166 : decode zb_Mo_add 166 = .ok (.iload 7, 2) := by decide +kernel
theorem d_Mo_add_168 : decode zb_Mo_add 168 = .ok (.iadd, 1) := by decide +kernel
theorem d_Mo_add_169 : decode zb_Mo_add 169 = .ok (.iload 7, 2) := by decide +kernel
theorem d_Mo_add_171 : decode zb_Mo_add 171 = .ok (.ifCond .ne 7, 3) := by decide +kernel
theorem d_Mo_add_174 : decode zb_Mo_add 174 = .ok (.iconst 2, 1) := by decide +kernel
theorem d_Mo_add_175 : decode zb_Mo_add 175 = .ok (.goto 14, 3) := by decide +kernel
theorem d_Mo_add_178 : decode zb_Mo_add 178 = .ok (.iload 7, 2) := by decide +kernel
theorem d_Mo_add_180 : decode zb_Mo_add 180 = .ok (.iconst 1, 1) := by decide +kernel
theorem d_Mo_add_181 : decode zb_Mo_add 181 = .ok (.if_icmp .ne 7, 3) := by decide +kernel
theorem d_Mo_add_184 : decode zb_Mo_add 184 = .ok (.iconst 3, 1) := by decide +kernel
theorem d_Mo_add_185 : decode zb_Mo_add 185 = .ok (.goto 4, 3) := by decide +kernel
theorem d_Mo_add_188 : decode zb_Mo_add 188 = .ok (.iconst 1, 1) := by decide +kernel
theorem d_Mo_add_189 : decode zb_Mo_add 189 = .ok (.iastore, 1) := by decide +kernel
theorem d_Mo_add_190 : decode zb_Mo_add 190 = .ok (.aload_n 0, 1) := by decide +kernel
theorem d_Mo_add_191 : decode zb_Mo_add 191 = .ok (.getfield 34, 3) := by decide +kernel
theorem d_Mo_add_194 : decode zb_Mo_add 194 = .ok (.iconst 3, 1) := by decide +kernel
theorem d_Mo_add_195 : decode zb_Mo_add 195 = .ok (.iload 6, 2) := by decide +kernel
theorem d_Mo_add_197 : decode zb_Mo_add 197 = .ok (.imul, 1) := by decide +kernel
theorem d_Mo_add_198 : decode zb_Mo_add 198 = .ok (.iload 7, 2) := by decide +kernel
theorem d_Mo_add_200 : decode zb_Mo_add 200 = .ok (.iadd, 1) := by decide +kernel
theorem d_Mo_add_201 : decode zb_Mo_add 201 = .ok (.aload_n 0, 1) := by decide +kernel
theorem d_Mo_add_202 : decode zb_Mo_add 202 = .ok (.getfield 37, 3) := by decide +kernel
theorem d_Mo_add_205 : decode zb_Mo_add 205 = .ok (.iconst 3, 1) := by decide +kernel
theorem d_Mo_add_206 : decode zb_Mo_add 206 = .ok (.iload 6, 2) := by decide +kernel
theorem d_Mo_add_208 : decode zb_Mo_add 208 = .ok (.imul, 1) := by decide +kernel
theorem d_Mo_add_209 : decode zb_Mo_add 209 = .ok (.iload 7, 2) := by decide +kernel
theorem d_Mo_add_211 : decode zb_Mo_add 211 = .ok (.iadd, 1) := by decide +kernel
theorem d_Mo_add_212 : decode zb_Mo_add 212 = .ok (.iaload, 1) := by decide +kernel
theorem d_Mo_add_213 : decode zb_Mo_add 213 = .ok (.iastore, 1) := by decide +kernel
theorem d_Mo_add_214 : decode zb_Mo_add 214 = .ok (.iinc 7 1, 3) := by decide +kernel
theorem d_Mo_add_217 : decode zb_Mo_add 217 = .ok (.goto (-65), 3) := by decide +kernel
theorem d_Mo_add_220 : decode zb_Mo_add 220 = .ok (.aload_n 0, 1) := by decide +kernel
theorem d_Mo_add_221 : decode zb_Mo_add 221 = .ok (.dup, 1) := by decide +kernel
theorem d_Mo_add_222 : decode zb_Mo_add 222 = .ok (.getfield 81, 3) := by decide +kernel
theorem d_Mo_add_225 : decode zb_Mo_add 225 = .ok (.iconst 1, 1) := by decide +kernel
theorem d_Mo_add_226 : decode zb_Mo_add 226 = .ok (.iadd, 1) := by decide +kernel
theorem d_Mo_add_227 : decode zb_Mo_add 227 = .ok (.putfield 81, 3) := by decide +kernel
theorem d_Mo_add_230 : decode zb_Mo_add 230 = .ok (.aload_n 0, 1) := by decide +kernel
theorem d_Mo_add_231 : decode zb_Mo_add 231 = .ok (.iconst 0, 1) := by decide +kernel
theorem d_Mo_add_232 : decode zb_Mo_add 232 = .ok (.iload 6, 2) := by decide +kernel
theorem d_Mo_add_234 : decode zb_Mo_add 234 = .ok (.iload_n 3, 1) := by decide +kernel
theorem d_Mo_add_235 : decode zb_Mo_add 235 = .ok (.invokevirtual 102, 3) := by decide +kernel
theorem d_Mo_add_238 : decode zb_Mo_add 238 = .ok (.iload 6, 2) := by decide +kernel
theorem d_Mo_add_240 : decode zb_Mo_add 240 = .ok (.ireturn, 1) := by decide +kernel
def k_Mo_add_189 (l1 : Int32) (l2 : Int32) (l3 : Int32) (l4 : Int32) (l5 : Int32) (kf_152 : Int32 → Int32 → zsM → Option (Int32 × zsM)) (l6 : Int32) (l7 : Int32) (s0 : Int32) (s1 : Int32) (x : zsM) : Option (Int32 × zsM) := (if zOut s1 24 then none else (if zOut ((((3 : Int32) * l6) + l7)) 24 then none else (if zOut ((((3 : Int32) * l6) + l7)) 24 then none else kf_152 l6 ((l7 + (1 : Int32))) ((x.1, (va_up ((va_up x.2 9 (upd ((x.2 9)) s1.toNatClampNeg s0))) 8 (upd ((x.2 8)) ((((3 : Int32) * l6) + l7)).toNatClampNeg ((((upd ((x.2 9)) s1.toNatClampNeg s0)) ((((3 : Int32) * l6) + l7)).toNatClampNeg)))))))))
set_option maxRecDepth 20000 in
theorem w_Mo_add_189 {X : zX} {c : zY} {q : Nat → Nat} {l1 : Int32} {l2 : Int32} {l3 : Int32} {l4 : Int32} {l5 : Int32} {out : Int32 × zsM} {kf_152 : Int32 → Int32 → zsM → Option (Int32 × zsM)} (hX : Ok X zr_Mo zb_Mo_add 8 4 c) (hR : Rt X (some .int) (some (.int out.1)) (zwM c q out.2)) (hk_152 : ∀ (l6 : Int32) (l7 : Int32) (x : zsM), kf_152 l6 l7 x = some out → Go X (zwM c q x) [(0, .ref ((q 0))), (3, .int l3), (6, .int l6), (7, .int l7)] 152 []) : ∀ (l6 : Int32) (l7 : Int32) (s0 : Int32) (s1 : Int32) (x : zsM), k_Mo_add_189 l1 l2 l3 l4 l5 kf_152 l6 l7 s0 s1 x = some out → Go X (zwM c q x) [(0, .ref ((q 0))), (3, .int l3), (6, .int l6), (7, .int l7)] 189 [.int s0, .int s1, .ref ((q 10))] := by
  intro l6 l7 s0 s1 x h
  rw [k_Mo_add_189] at h
  refine g_iast (pc := 189) (f := (x.2 9)) (w' := (zwM c q ((x.1, (va_up x.2 9 (upd ((x.2 9)) s1.toNatClampNeg s0)))))) hX 10 rfl h (sa_Mo_10 c q x (upd ((x.2 9)) s1.toNatClampNeg s0)) d_Mo_add_189 (fun h => ?_)
  refine g_aload_n (pc := 190) hX d_Mo_add_190 rfl 0 rfl ?_
  refine gf_Mo_34 (pc := 191) (v := .ref ((q 9))) hX 0 rfl rfl d_Mo_add_191 ?_
  refine g_iconst (pc := 194) hX d_Mo_add_194 zc_3 ?_
  refine g_iload (pc := 195) hX d_Mo_add_195 2 rfl ?_
  refine g_imul (pc := 197) hX d_Mo_add_197 ?_
  refine g_iload (pc := 198) hX d_Mo_add_198 3 rfl ?_
  refine g_iadd (pc := 200) hX d_Mo_add_200 ?_
  refine g_aload_n (pc := 201) hX d_Mo_add_201 rfl 0 rfl ?_
  refine gf_Mo_37 (pc := 202) (v := .ref ((q 10))) hX 0 rfl rfl d_Mo_add_202 ?_
  refine g_iconst (pc := 205) hX d_Mo_add_205 zc_3 ?_
  refine g_iload (pc := 206) hX d_Mo_add_206 2 rfl ?_
  refine g_imul (pc := 208) hX d_Mo_add_208 ?_
  refine g_iload (pc := 209) hX d_Mo_add_209 3 rfl ?_
  refine g_iadd (pc := 211) hX d_Mo_add_211 ?_
  refine g_iald (pc := 212) (f := (upd ((x.2 9)) s1.toNatClampNeg s0)) hX 10 rfl h d_Mo_add_212 (fun h => ?_)
  refine g_iast (pc := 213) (f := (x.2 8)) (w' := (zwM c q ((x.1, (va_up ((va_up x.2 9 (upd ((x.2 9)) s1.toNatClampNeg s0))) 8 (upd ((x.2 8)) ((((3 : Int32) * l6) + l7)).toNatClampNeg ((((upd ((x.2 9)) s1.toNatClampNeg s0)) ((((3 : Int32) * l6) + l7)).toNatClampNeg)))))))) hX 9 rfl h (sa_Mo_9 c q ((x.1, (va_up x.2 9 (upd ((x.2 9)) s1.toNatClampNeg s0)))) (upd ((x.2 8)) ((((3 : Int32) * l6) + l7)).toNatClampNeg ((((upd ((x.2 9)) s1.toNatClampNeg s0)) ((((3 : Int32) * l6) + l7)).toNatClampNeg)))) d_Mo_add_213 (fun h => ?_)
  refine g_iinc (pc := 214) (q := 3) (L' := [(7, .int ((l7 + (1 : Int32)))), (0, .ref ((q 0))), (3, .int l3), (6, .int l6)]) hX d_Mo_add_214 rfl zc_1 rfl rfl ?_
  refine g_goto (pc := 217) (tgt := 152) hX d_Mo_add_217 (by decide) ?_
  refine g_ls (L' := [(0, .ref ((q 0))), (3, .int l3), (6, .int l6), (7, .int ((l7 + (1 : Int32))))]) [1, 2, 3, 0] rfl ?_
  exact hk_152 _ _ _ h
def k_Mo_add_152 (l1 : Int32) (l2 : Int32) (l3 : Int32) (l4 : Int32) (l5 : Int32) : Nat → Int32 → Int32 → zsM → Option (Int32 × zsM)
  | 0, _, _, _ => none
  | fu + 1, l6, l7, x => (if l7 < (3 : Int32) then (if l7 = 0 then k_Mo_add_189 l1 l2 l3 l4 l5 (k_Mo_add_152 l1 l2 l3 l4 l5 fu) l6 l7 ((2 : Int32)) ((((3 : Int32) * l6) + l7)) x else (if l7 = (1 : Int32) then k_Mo_add_189 l1 l2 l3 l4 l5 (k_Mo_add_152 l1 l2 l3 l4 l5 fu) l6 l7 ((3 : Int32)) ((((3 : Int32) * l6) + l7)) x else k_Mo_add_189 l1 l2 l3 l4 l5 (k_Mo_add_152 l1 l2 l3 l4 l5 fu) l6 l7 ((1 : Int32)) ((((3 : Int32) * l6) + l7)) x)) else (k_Mo_notes (((upd x.1 11 (((x.1 11) + (1 : Int32)))), x.2)) ((0 : Int32)) l6 l3).bind fun o16 => some (l6, o16))
set_option maxRecDepth 20000 in
theorem w_Mo_add_152 {X : zX} {c : zY} {q : Nat → Nat} {l1 : Int32} {l2 : Int32} {l3 : Int32} {l4 : Int32} {l5 : Int32} {out : Int32 × zsM} (hX : Ok X zr_Mo zb_Mo_add 8 4 c) (hR : Rt X (some .int) (some (.int out.1)) (zwM c q out.2)) : ∀ (fu : Nat) (l6 : Int32) (l7 : Int32) (x : zsM), k_Mo_add_152 l1 l2 l3 l4 l5 fu l6 l7 x = some out → Go X (zwM c q x) [(0, .ref ((q 0))), (3, .int l3), (6, .int l6), (7, .int l7)] 152 [] := by
  intro fu
  induction fu with
  | zero => intro l6 l7 x h; rw [k_Mo_add_152] at h; cases h
  | succ fu ih =>
    intro l6 l7 x h
    rw [k_Mo_add_152] at h
    refine g_iload (pc := 152) hX d_Mo_add_152 3 rfl ?_
    refine g_iconst (pc := 154) hX d_Mo_add_154 zc_3 ?_
    refine g_icmp_ge (pc := 155) (tgt := 220) hX d_Mo_add_155 (by decide) h (fun c15 h => ?_) (fun c15 h => ?_)
    · refine g_aload_n (pc := 220) hX d_Mo_add_220 rfl 0 rfl ?_
      refine g_dup (pc := 221) hX d_Mo_add_221 rfl ?_
      refine gf_Mo_81 (pc := 222) (v := .int ((x.1 11))) hX 0 rfl rfl d_Mo_add_222 ?_
      refine g_iconst (pc := 225) hX d_Mo_add_225 zc_1 ?_
      refine g_iadd (pc := 226) hX d_Mo_add_226 ?_
      refine pf_Mo_81 (pc := 227) (w2 := (zwM c q (((upd x.1 11 (((x.1 11) + (1 : Int32)))), x.2)))) hX 0 rfl rfl (su_Mo_0_11 c q x (((x.1 11) + (1 : Int32)))) d_Mo_add_227 ?_
      refine g_aload_n (pc := 230) hX d_Mo_add_230 rfl 0 rfl ?_
      refine g_iconst (pc := 231) hX d_Mo_add_231 zc_0 ?_
      refine g_iload (pc := 232) hX d_Mo_add_232 2 rfl ?_
      refine g_iload_n (pc := 234) hX d_Mo_add_234 rfl 1 rfl ?_
      obtain ⟨o16, e16, h⟩ := zbind h
      refine g_cvV (pc := 235) (w1 := []) (w2 := []) (st := []) (w' := (zwM c q o16)) hX zk_Mo_notes zs_Mo_notes zL_Mo_102 (c_Mo_notes c q (((upd x.1 11 (((x.1 11) + (1 : Int32)))), x.2)) ((0 : Int32)) l6 l3 e16) rfl rfl rfl rfl (zself _) (zself _).symm 0 10 rfl rfl rfl d_Mo_add_235 ?_
      refine g_iload (pc := 238) hX d_Mo_add_238 2 rfl ?_
      obtain rfl := Option.some.inj h
      exact g_iret (pc := 240) hX hR d_Mo_add_240
    · refine g_aload_n (pc := 158) hX d_Mo_add_158 rfl 0 rfl ?_
      refine gf_Mo_37 (pc := 159) (v := .ref ((q 10))) hX 0 rfl rfl d_Mo_add_159 ?_
      refine g_iconst (pc := 162) hX d_Mo_add_162 zc_3 ?_
      refine g_iload (pc := 163) hX d_Mo_add_163 2 rfl ?_
      refine g_imul (pc := 165) hX d_Mo_add_165 ?_
      refine g_iload (pc := 166) hX d_Mo_add_166 3 rfl ?_
      refine g_iadd (pc := 168) hX d_Mo_add_168 ?_
      refine g_iload (pc := 169) hX d_Mo_add_169 3 rfl ?_
      refine g_if_ne (pc := 171) (tgt := 178) hX d_Mo_add_171 (by decide) h (fun c17 h => ?_) (fun c17 h => ?_)
      · refine g_iload (pc := 178) hX d_Mo_add_178 3 rfl ?_
        refine g_iconst (pc := 180) hX d_Mo_add_180 zc_1 ?_
        refine g_icmp_ne (pc := 181) (tgt := 188) hX d_Mo_add_181 (by decide) h (fun c18 h => ?_) (fun c18 h => ?_)
        · refine g_iconst (pc := 188) hX d_Mo_add_188 zc_1 ?_
          exact w_Mo_add_189 hX hR ih _ _ _ _ _ h
        · refine g_iconst (pc := 184) hX d_Mo_add_184 zc_3 ?_
          refine g_goto (pc := 185) (tgt := 189) hX d_Mo_add_185 (by decide) ?_
          exact w_Mo_add_189 hX hR ih _ _ _ _ _ h
      · refine g_iconst (pc := 174) hX d_Mo_add_174 zc_2 ?_
        refine g_goto (pc := 175) (tgt := 189) hX d_Mo_add_175 (by decide) ?_
        exact w_Mo_add_189 hX hR ih _ _ _ _ _ h
def k_Mo_add (x : zsM) (l1 : Int32) (l2 : Int32) (l3 : Int32) (l4 : Int32) (l5 : Int32) : Option (Int32 × zsM) := (k_Mo_isBetween l1 ((0 : Int32)) ((1 : Int32))).bind fun o1 => (if o1 = 0 then some ((-1 : Int32), x) else (k_Mo_isCell l2).bind fun o3 => (if o3 = 0 then some ((-1 : Int32), x) else (k_Mo_isBetween l3 ((1 : Int32)) ((99 : Int32))).bind fun o5 => (if o5 = 0 then some ((-2 : Int32), x) else (k_Mo_isBetween l4 ((-5 : Int32)) ((9 : Int32))).bind fun o7 => (if o7 = 0 then some ((-2 : Int32), x) else (k_Mo_isBetween l5 ((1 : Int32)) ((9 : Int32))).bind fun o9 => (if o9 = 0 then some ((-2 : Int32), x) else (k_Mo_isFree x l2).bind fun o11 => (if o11 = 0 then (k_Mo_refuses x ((5 : Int32))).bind fun o19 => some (o19.1, o19.2) else (if (x.1 11) = (8 : Int32) then some ((-4 : Int32), x) else (k_Mo_remembers x).bind fun o14 => (if zOut ((o14.1 11)) 8 then none else (if zOut ((o14.1 11)) 8 then none else (if zOut ((o14.1 11)) 8 then none else (if zOut ((o14.1 11)) 8 then none else (if zOut ((o14.1 11)) 8 then none else (if zOut ((o14.1 11)) 8 then none else (if zOut ((o14.1 11)) 8 then none else k_Mo_add_152 l1 l2 l3 l4 l5 zFu ((o14.1 11)) ((0 : Int32)) ((o14.1, (va_up ((va_up ((va_up ((va_up ((va_up ((va_up ((va_up o14.2 1 (upd ((o14.2 1)) ((o14.1 11)).toNatClampNeg l1))) 2 (upd ((o14.2 2)) ((o14.1 11)).toNatClampNeg l2))) 3 (upd (((((va_up o14.2 1 (upd ((o14.2 1)) ((o14.1 11)).toNatClampNeg l1)))) 3)) ((o14.1 11)).toNatClampNeg l3))) 4 (upd (((((va_up ((va_up o14.2 1 (upd ((o14.2 1)) ((o14.1 11)).toNatClampNeg l1))) 2 (upd ((o14.2 2)) ((o14.1 11)).toNatClampNeg l2)))) 4)) ((o14.1 11)).toNatClampNeg l3))) 5 (upd (((((va_up ((va_up ((va_up o14.2 1 (upd ((o14.2 1)) ((o14.1 11)).toNatClampNeg l1))) 2 (upd ((o14.2 2)) ((o14.1 11)).toNatClampNeg l2))) 3 (upd (((((va_up o14.2 1 (upd ((o14.2 1)) ((o14.1 11)).toNatClampNeg l1)))) 3)) ((o14.1 11)).toNatClampNeg l3)))) 5)) ((o14.1 11)).toNatClampNeg l4))) 6 (upd (((((va_up ((va_up ((va_up ((va_up o14.2 1 (upd ((o14.2 1)) ((o14.1 11)).toNatClampNeg l1))) 2 (upd ((o14.2 2)) ((o14.1 11)).toNatClampNeg l2))) 3 (upd (((((va_up o14.2 1 (upd ((o14.2 1)) ((o14.1 11)).toNatClampNeg l1)))) 3)) ((o14.1 11)).toNatClampNeg l3))) 4 (upd (((((va_up ((va_up o14.2 1 (upd ((o14.2 1)) ((o14.1 11)).toNatClampNeg l1))) 2 (upd ((o14.2 2)) ((o14.1 11)).toNatClampNeg l2)))) 4)) ((o14.1 11)).toNatClampNeg l3)))) 6)) ((o14.1 11)).toNatClampNeg l5))) 7 (upd (((((va_up ((va_up ((va_up ((va_up ((va_up o14.2 1 (upd ((o14.2 1)) ((o14.1 11)).toNatClampNeg l1))) 2 (upd ((o14.2 2)) ((o14.1 11)).toNatClampNeg l2))) 3 (upd (((((va_up o14.2 1 (upd ((o14.2 1)) ((o14.1 11)).toNatClampNeg l1)))) 3)) ((o14.1 11)).toNatClampNeg l3))) 4 (upd (((((va_up ((va_up o14.2 1 (upd ((o14.2 1)) ((o14.1 11)).toNatClampNeg l1))) 2 (upd ((o14.2 2)) ((o14.1 11)).toNatClampNeg l2)))) 4)) ((o14.1 11)).toNatClampNeg l3))) 5 (upd (((((va_up ((va_up ((va_up o14.2 1 (upd ((o14.2 1)) ((o14.1 11)).toNatClampNeg l1))) 2 (upd ((o14.2 2)) ((o14.1 11)).toNatClampNeg l2))) 3 (upd (((((va_up o14.2 1 (upd ((o14.2 1)) ((o14.1 11)).toNatClampNeg l1)))) 3)) ((o14.1 11)).toNatClampNeg l3)))) 5)) ((o14.1 11)).toNatClampNeg l4)))) 7)) ((o14.1 11)).toNatClampNeg ((-5 : Int32))))))))))))))))))))
set_option maxRecDepth 20000 in
theorem c_Mo_add (c : zY) (q : Nat → Nat) (x : zsM) (l1 : Int32) (l2 : Int32) (l3 : Int32) (l4 : Int32) (l5 : Int32) {out : Int32 × zsM} (h : k_Mo_add x l1 l2 l3 l4 l5 = some out) : KM zy_Mo_add zb_Mo_add 8 (some .int) 4 c [.ref ((q 0)), .int l1, .int l2, .int l3, .int l4, .int l5] (zwM c q x) (zwM c q out.2) (some (.int out.1)) := zK_of zp_Mo rfl (Nat.le_of_ble_eq_true rfl) (zq_Mo c q _ _) (fun X hX hR => by
  show Go X (zwM c q x) [(0, .ref ((q 0))), (1, .int l1), (2, .int l2), (3, .int l3), (4, .int l4), (5, .int l5)] 0 []
  rw [k_Mo_add] at h
  refine g_iload_n (pc := 0) hX d_Mo_add_0 rfl 1 rfl ?_
  refine g_iconst (pc := 1) hX d_Mo_add_1 zc_0 ?_
  refine g_iconst (pc := 2) hX d_Mo_add_2 zc_1 ?_
  obtain ⟨o1, e1, h⟩ := zbind h
  refine g_csI (pc := 3) (st := []) hX zk_Mo_isBetween zL_Mo_84 (c_Mo_isBetween c l1 ((0 : Int32)) ((1 : Int32)) e1) rfl rfl rfl rfl rfl d_Mo_add_3 ?_
  refine g_if_eq (pc := 6) (tgt := 16) hX d_Mo_add_6 (by decide) h (fun c2 h => ?_) (fun c2 h => ?_)
  · refine g_iconst (pc := 16) hX d_Mo_add_16 zc_m1 ?_
    obtain rfl := Option.some.inj h
    exact g_iret (pc := 17) hX hR d_Mo_add_17
  · refine g_iload_n (pc := 9) hX d_Mo_add_9 rfl 2 rfl ?_
    obtain ⟨o3, e3, h⟩ := zbind h
    refine g_csI (pc := 10) (st := []) hX zk_Mo_isCell zL_Mo_166 (c_Mo_isCell c l2 e3) rfl rfl rfl rfl rfl d_Mo_add_10 ?_
    refine g_if_ne (pc := 13) (tgt := 18) hX d_Mo_add_13 (by decide) h (fun c4 h => ?_) (fun c4 h => ?_)
    · refine g_iload_n (pc := 18) hX d_Mo_add_18 rfl 3 rfl ?_
      refine g_iconst (pc := 19) hX d_Mo_add_19 zc_1 ?_
      refine g_bipush (pc := 20) hX d_Mo_add_20 ze_99 ?_
      obtain ⟨o5, e5, h⟩ := zbind h
      refine g_csI (pc := 22) (st := []) hX zk_Mo_isBetween zL_Mo_84 (c_Mo_isBetween c l3 ((1 : Int32)) ((99 : Int32)) e5) rfl rfl rfl rfl rfl d_Mo_add_22 ?_
      refine g_if_eq (pc := 25) (tgt := 51) hX d_Mo_add_25 (by decide) h (fun c6 h => ?_) (fun c6 h => ?_)
      · refine g_bipush (pc := 51) hX d_Mo_add_51 ze_m2 ?_
        obtain rfl := Option.some.inj h
        exact g_iret (pc := 53) hX hR d_Mo_add_53
      · refine g_iload (pc := 28) hX d_Mo_add_28 4 rfl ?_
        refine g_bipush (pc := 30) hX d_Mo_add_30 ze_m5 ?_
        refine g_bipush (pc := 32) hX d_Mo_add_32 ze_9 ?_
        obtain ⟨o7, e7, h⟩ := zbind h
        refine g_csI (pc := 34) (st := []) hX zk_Mo_isBetween zL_Mo_84 (c_Mo_isBetween c l4 ((-5 : Int32)) ((9 : Int32)) e7) rfl rfl rfl rfl rfl d_Mo_add_34 ?_
        refine g_if_eq (pc := 37) (tgt := 51) hX d_Mo_add_37 (by decide) h (fun c8 h => ?_) (fun c8 h => ?_)
        · refine g_bipush (pc := 51) hX d_Mo_add_51 ze_m2 ?_
          obtain rfl := Option.some.inj h
          exact g_iret (pc := 53) hX hR d_Mo_add_53
        · refine g_iload (pc := 40) hX d_Mo_add_40 5 rfl ?_
          refine g_iconst (pc := 42) hX d_Mo_add_42 zc_1 ?_
          refine g_bipush (pc := 43) hX d_Mo_add_43 ze_9 ?_
          obtain ⟨o9, e9, h⟩ := zbind h
          refine g_csI (pc := 45) (st := []) hX zk_Mo_isBetween zL_Mo_84 (c_Mo_isBetween c l5 ((1 : Int32)) ((9 : Int32)) e9) rfl rfl rfl rfl rfl d_Mo_add_45 ?_
          refine g_if_ne (pc := 48) (tgt := 54) hX d_Mo_add_48 (by decide) h (fun c10 h => ?_) (fun c10 h => ?_)
          · refine g_aload_n (pc := 54) hX d_Mo_add_54 rfl 0 rfl ?_
            refine g_iload_n (pc := 55) hX d_Mo_add_55 rfl 2 rfl ?_
            obtain ⟨o11, e11, h⟩ := zbind h
            refine g_cvI (pc := 56) (w1 := []) (w2 := []) (st := []) (w' := (zwM c q x)) hX zk_Mo_isFree zs_Mo_isFree zL_Mo_169 (c_Mo_isFree c q x l2 e11) rfl rfl rfl rfl (zself _) (zself _).symm 0 10 rfl rfl rfl d_Mo_add_56 ?_
            refine g_if_ne (pc := 59) (tgt := 68) hX d_Mo_add_59 (by decide) h (fun c12 h => ?_) (fun c12 h => ?_)
            · refine g_aload_n (pc := 68) hX d_Mo_add_68 rfl 0 rfl ?_
              refine gf_Mo_81 (pc := 69) (v := .int ((x.1 11))) hX 0 rfl rfl d_Mo_add_69 ?_
              refine g_bipush (pc := 72) hX d_Mo_add_72 ze_8 ?_
              refine g_icmp_ne (pc := 74) (tgt := 80) hX d_Mo_add_74 (by decide) h (fun c13 h => ?_) (fun c13 h => ?_)
              · refine g_aload_n (pc := 80) hX d_Mo_add_80 rfl 0 rfl ?_
                obtain ⟨o14, e14, h⟩ := zbind h
                refine g_cvV (pc := 81) (w1 := []) (w2 := []) (st := []) (w' := (zwM c q o14)) hX zk_Mo_remembers zs_Mo_remembers zL_Mo_175 (c_Mo_remembers c q x e14) rfl rfl rfl rfl (zself _) (zself _).symm 0 10 rfl rfl rfl d_Mo_add_81 ?_
                refine g_aload_n (pc := 84) hX d_Mo_add_84 rfl 0 rfl ?_
                refine gf_Mo_81 (pc := 85) (v := .int ((o14.1 11))) hX 0 rfl rfl d_Mo_add_85 ?_
                refine g_istore (pc := 88) (L' := [(6, .int ((o14.1 11))), (0, .ref ((q 0))), (1, .int l1), (2, .int l2), (3, .int l3), (4, .int l4), (5, .int l5)]) hX d_Mo_add_88 rfl rfl ?_
                refine g_aload_n (pc := 90) hX d_Mo_add_90 rfl 1 rfl ?_
                refine gf_Mo_13 (pc := 91) (v := .ref ((q 2))) hX 0 rfl rfl d_Mo_add_91 ?_
                refine g_iload (pc := 94) hX d_Mo_add_94 0 rfl ?_
                refine g_iload_n (pc := 96) hX d_Mo_add_96 rfl 2 rfl ?_
                refine g_iast (pc := 97) (f := (o14.2 1)) (w' := (zwM c q ((o14.1, (va_up o14.2 1 (upd ((o14.2 1)) ((o14.1 11)).toNatClampNeg l1)))))) hX 2 rfl h (sa_Mo_2 c q o14 (upd ((o14.2 1)) ((o14.1 11)).toNatClampNeg l1)) d_Mo_add_97 (fun h => ?_)
                refine g_aload_n (pc := 98) hX d_Mo_add_98 rfl 1 rfl ?_
                refine gf_Mo_16 (pc := 99) (v := .ref ((q 3))) hX 0 rfl rfl d_Mo_add_99 ?_
                refine g_iload (pc := 102) hX d_Mo_add_102 0 rfl ?_
                refine g_iload_n (pc := 104) hX d_Mo_add_104 rfl 3 rfl ?_
                refine g_iast (pc := 105) (f := (o14.2 2)) (w' := (zwM c q ((o14.1, (va_up ((va_up o14.2 1 (upd ((o14.2 1)) ((o14.1 11)).toNatClampNeg l1))) 2 (upd ((o14.2 2)) ((o14.1 11)).toNatClampNeg l2)))))) hX 3 rfl h (sa_Mo_3 c q ((o14.1, (va_up o14.2 1 (upd ((o14.2 1)) ((o14.1 11)).toNatClampNeg l1)))) (upd ((o14.2 2)) ((o14.1 11)).toNatClampNeg l2)) d_Mo_add_105 (fun h => ?_)
                refine g_aload_n (pc := 106) hX d_Mo_add_106 rfl 1 rfl ?_
                refine gf_Mo_19 (pc := 107) (v := .ref ((q 4))) hX 0 rfl rfl d_Mo_add_107 ?_
                refine g_iload (pc := 110) hX d_Mo_add_110 0 rfl ?_
                refine g_iload_n (pc := 112) hX d_Mo_add_112 rfl 4 rfl ?_
                refine g_iast (pc := 113) (f := ((((va_up o14.2 1 (upd ((o14.2 1)) ((o14.1 11)).toNatClampNeg l1)))) 3)) (w' := (zwM c q ((o14.1, (va_up ((va_up ((va_up o14.2 1 (upd ((o14.2 1)) ((o14.1 11)).toNatClampNeg l1))) 2 (upd ((o14.2 2)) ((o14.1 11)).toNatClampNeg l2))) 3 (upd (((((va_up o14.2 1 (upd ((o14.2 1)) ((o14.1 11)).toNatClampNeg l1)))) 3)) ((o14.1 11)).toNatClampNeg l3)))))) hX 4 rfl h (sa_Mo_4 c q ((o14.1, (va_up ((va_up o14.2 1 (upd ((o14.2 1)) ((o14.1 11)).toNatClampNeg l1))) 2 (upd ((o14.2 2)) ((o14.1 11)).toNatClampNeg l2)))) (upd (((((va_up o14.2 1 (upd ((o14.2 1)) ((o14.1 11)).toNatClampNeg l1)))) 3)) ((o14.1 11)).toNatClampNeg l3)) d_Mo_add_113 (fun h => ?_)
                refine g_aload_n (pc := 114) hX d_Mo_add_114 rfl 1 rfl ?_
                refine gf_Mo_22 (pc := 115) (v := .ref ((q 5))) hX 0 rfl rfl d_Mo_add_115 ?_
                refine g_iload (pc := 118) hX d_Mo_add_118 0 rfl ?_
                refine g_iload_n (pc := 120) hX d_Mo_add_120 rfl 4 rfl ?_
                refine g_iast (pc := 121) (f := ((((va_up ((va_up o14.2 1 (upd ((o14.2 1)) ((o14.1 11)).toNatClampNeg l1))) 2 (upd ((o14.2 2)) ((o14.1 11)).toNatClampNeg l2)))) 4)) (w' := (zwM c q ((o14.1, (va_up ((va_up ((va_up ((va_up o14.2 1 (upd ((o14.2 1)) ((o14.1 11)).toNatClampNeg l1))) 2 (upd ((o14.2 2)) ((o14.1 11)).toNatClampNeg l2))) 3 (upd (((((va_up o14.2 1 (upd ((o14.2 1)) ((o14.1 11)).toNatClampNeg l1)))) 3)) ((o14.1 11)).toNatClampNeg l3))) 4 (upd (((((va_up ((va_up o14.2 1 (upd ((o14.2 1)) ((o14.1 11)).toNatClampNeg l1))) 2 (upd ((o14.2 2)) ((o14.1 11)).toNatClampNeg l2)))) 4)) ((o14.1 11)).toNatClampNeg l3)))))) hX 5 rfl h (sa_Mo_5 c q ((o14.1, (va_up ((va_up ((va_up o14.2 1 (upd ((o14.2 1)) ((o14.1 11)).toNatClampNeg l1))) 2 (upd ((o14.2 2)) ((o14.1 11)).toNatClampNeg l2))) 3 (upd (((((va_up o14.2 1 (upd ((o14.2 1)) ((o14.1 11)).toNatClampNeg l1)))) 3)) ((o14.1 11)).toNatClampNeg l3)))) (upd (((((va_up ((va_up o14.2 1 (upd ((o14.2 1)) ((o14.1 11)).toNatClampNeg l1))) 2 (upd ((o14.2 2)) ((o14.1 11)).toNatClampNeg l2)))) 4)) ((o14.1 11)).toNatClampNeg l3)) d_Mo_add_121 (fun h => ?_)
                refine g_aload_n (pc := 122) hX d_Mo_add_122 rfl 1 rfl ?_
                refine gf_Mo_25 (pc := 123) (v := .ref ((q 6))) hX 0 rfl rfl d_Mo_add_123 ?_
                refine g_iload (pc := 126) hX d_Mo_add_126 0 rfl ?_
                refine g_iload (pc := 128) hX d_Mo_add_128 5 rfl ?_
                refine g_iast (pc := 130) (f := ((((va_up ((va_up ((va_up o14.2 1 (upd ((o14.2 1)) ((o14.1 11)).toNatClampNeg l1))) 2 (upd ((o14.2 2)) ((o14.1 11)).toNatClampNeg l2))) 3 (upd (((((va_up o14.2 1 (upd ((o14.2 1)) ((o14.1 11)).toNatClampNeg l1)))) 3)) ((o14.1 11)).toNatClampNeg l3)))) 5)) (w' := (zwM c q ((o14.1, (va_up ((va_up ((va_up ((va_up ((va_up o14.2 1 (upd ((o14.2 1)) ((o14.1 11)).toNatClampNeg l1))) 2 (upd ((o14.2 2)) ((o14.1 11)).toNatClampNeg l2))) 3 (upd (((((va_up o14.2 1 (upd ((o14.2 1)) ((o14.1 11)).toNatClampNeg l1)))) 3)) ((o14.1 11)).toNatClampNeg l3))) 4 (upd (((((va_up ((va_up o14.2 1 (upd ((o14.2 1)) ((o14.1 11)).toNatClampNeg l1))) 2 (upd ((o14.2 2)) ((o14.1 11)).toNatClampNeg l2)))) 4)) ((o14.1 11)).toNatClampNeg l3))) 5 (upd (((((va_up ((va_up ((va_up o14.2 1 (upd ((o14.2 1)) ((o14.1 11)).toNatClampNeg l1))) 2 (upd ((o14.2 2)) ((o14.1 11)).toNatClampNeg l2))) 3 (upd (((((va_up o14.2 1 (upd ((o14.2 1)) ((o14.1 11)).toNatClampNeg l1)))) 3)) ((o14.1 11)).toNatClampNeg l3)))) 5)) ((o14.1 11)).toNatClampNeg l4)))))) hX 6 rfl h (sa_Mo_6 c q ((o14.1, (va_up ((va_up ((va_up ((va_up o14.2 1 (upd ((o14.2 1)) ((o14.1 11)).toNatClampNeg l1))) 2 (upd ((o14.2 2)) ((o14.1 11)).toNatClampNeg l2))) 3 (upd (((((va_up o14.2 1 (upd ((o14.2 1)) ((o14.1 11)).toNatClampNeg l1)))) 3)) ((o14.1 11)).toNatClampNeg l3))) 4 (upd (((((va_up ((va_up o14.2 1 (upd ((o14.2 1)) ((o14.1 11)).toNatClampNeg l1))) 2 (upd ((o14.2 2)) ((o14.1 11)).toNatClampNeg l2)))) 4)) ((o14.1 11)).toNatClampNeg l3)))) (upd (((((va_up ((va_up ((va_up o14.2 1 (upd ((o14.2 1)) ((o14.1 11)).toNatClampNeg l1))) 2 (upd ((o14.2 2)) ((o14.1 11)).toNatClampNeg l2))) 3 (upd (((((va_up o14.2 1 (upd ((o14.2 1)) ((o14.1 11)).toNatClampNeg l1)))) 3)) ((o14.1 11)).toNatClampNeg l3)))) 5)) ((o14.1 11)).toNatClampNeg l4)) d_Mo_add_130 (fun h => ?_)
                refine g_aload_n (pc := 131) hX d_Mo_add_131 rfl 1 rfl ?_
                refine gf_Mo_28 (pc := 132) (v := .ref ((q 7))) hX 0 rfl rfl d_Mo_add_132 ?_
                refine g_iload (pc := 135) hX d_Mo_add_135 0 rfl ?_
                refine g_iload (pc := 137) hX d_Mo_add_137 6 rfl ?_
                refine g_iast (pc := 139) (f := ((((va_up ((va_up ((va_up ((va_up o14.2 1 (upd ((o14.2 1)) ((o14.1 11)).toNatClampNeg l1))) 2 (upd ((o14.2 2)) ((o14.1 11)).toNatClampNeg l2))) 3 (upd (((((va_up o14.2 1 (upd ((o14.2 1)) ((o14.1 11)).toNatClampNeg l1)))) 3)) ((o14.1 11)).toNatClampNeg l3))) 4 (upd (((((va_up ((va_up o14.2 1 (upd ((o14.2 1)) ((o14.1 11)).toNatClampNeg l1))) 2 (upd ((o14.2 2)) ((o14.1 11)).toNatClampNeg l2)))) 4)) ((o14.1 11)).toNatClampNeg l3)))) 6)) (w' := (zwM c q ((o14.1, (va_up ((va_up ((va_up ((va_up ((va_up ((va_up o14.2 1 (upd ((o14.2 1)) ((o14.1 11)).toNatClampNeg l1))) 2 (upd ((o14.2 2)) ((o14.1 11)).toNatClampNeg l2))) 3 (upd (((((va_up o14.2 1 (upd ((o14.2 1)) ((o14.1 11)).toNatClampNeg l1)))) 3)) ((o14.1 11)).toNatClampNeg l3))) 4 (upd (((((va_up ((va_up o14.2 1 (upd ((o14.2 1)) ((o14.1 11)).toNatClampNeg l1))) 2 (upd ((o14.2 2)) ((o14.1 11)).toNatClampNeg l2)))) 4)) ((o14.1 11)).toNatClampNeg l3))) 5 (upd (((((va_up ((va_up ((va_up o14.2 1 (upd ((o14.2 1)) ((o14.1 11)).toNatClampNeg l1))) 2 (upd ((o14.2 2)) ((o14.1 11)).toNatClampNeg l2))) 3 (upd (((((va_up o14.2 1 (upd ((o14.2 1)) ((o14.1 11)).toNatClampNeg l1)))) 3)) ((o14.1 11)).toNatClampNeg l3)))) 5)) ((o14.1 11)).toNatClampNeg l4))) 6 (upd (((((va_up ((va_up ((va_up ((va_up o14.2 1 (upd ((o14.2 1)) ((o14.1 11)).toNatClampNeg l1))) 2 (upd ((o14.2 2)) ((o14.1 11)).toNatClampNeg l2))) 3 (upd (((((va_up o14.2 1 (upd ((o14.2 1)) ((o14.1 11)).toNatClampNeg l1)))) 3)) ((o14.1 11)).toNatClampNeg l3))) 4 (upd (((((va_up ((va_up o14.2 1 (upd ((o14.2 1)) ((o14.1 11)).toNatClampNeg l1))) 2 (upd ((o14.2 2)) ((o14.1 11)).toNatClampNeg l2)))) 4)) ((o14.1 11)).toNatClampNeg l3)))) 6)) ((o14.1 11)).toNatClampNeg l5)))))) hX 7 rfl h (sa_Mo_7 c q ((o14.1, (va_up ((va_up ((va_up ((va_up ((va_up o14.2 1 (upd ((o14.2 1)) ((o14.1 11)).toNatClampNeg l1))) 2 (upd ((o14.2 2)) ((o14.1 11)).toNatClampNeg l2))) 3 (upd (((((va_up o14.2 1 (upd ((o14.2 1)) ((o14.1 11)).toNatClampNeg l1)))) 3)) ((o14.1 11)).toNatClampNeg l3))) 4 (upd (((((va_up ((va_up o14.2 1 (upd ((o14.2 1)) ((o14.1 11)).toNatClampNeg l1))) 2 (upd ((o14.2 2)) ((o14.1 11)).toNatClampNeg l2)))) 4)) ((o14.1 11)).toNatClampNeg l3))) 5 (upd (((((va_up ((va_up ((va_up o14.2 1 (upd ((o14.2 1)) ((o14.1 11)).toNatClampNeg l1))) 2 (upd ((o14.2 2)) ((o14.1 11)).toNatClampNeg l2))) 3 (upd (((((va_up o14.2 1 (upd ((o14.2 1)) ((o14.1 11)).toNatClampNeg l1)))) 3)) ((o14.1 11)).toNatClampNeg l3)))) 5)) ((o14.1 11)).toNatClampNeg l4)))) (upd (((((va_up ((va_up ((va_up ((va_up o14.2 1 (upd ((o14.2 1)) ((o14.1 11)).toNatClampNeg l1))) 2 (upd ((o14.2 2)) ((o14.1 11)).toNatClampNeg l2))) 3 (upd (((((va_up o14.2 1 (upd ((o14.2 1)) ((o14.1 11)).toNatClampNeg l1)))) 3)) ((o14.1 11)).toNatClampNeg l3))) 4 (upd (((((va_up ((va_up o14.2 1 (upd ((o14.2 1)) ((o14.1 11)).toNatClampNeg l1))) 2 (upd ((o14.2 2)) ((o14.1 11)).toNatClampNeg l2)))) 4)) ((o14.1 11)).toNatClampNeg l3)))) 6)) ((o14.1 11)).toNatClampNeg l5)) d_Mo_add_139 (fun h => ?_)
                refine g_aload_n (pc := 140) hX d_Mo_add_140 rfl 1 rfl ?_
                refine gf_Mo_31 (pc := 141) (v := .ref ((q 8))) hX 0 rfl rfl d_Mo_add_141 ?_
                refine g_iload (pc := 144) hX d_Mo_add_144 0 rfl ?_
                refine g_bipush (pc := 146) hX d_Mo_add_146 ze_m5 ?_
                refine g_iast (pc := 148) (f := ((((va_up ((va_up ((va_up ((va_up ((va_up o14.2 1 (upd ((o14.2 1)) ((o14.1 11)).toNatClampNeg l1))) 2 (upd ((o14.2 2)) ((o14.1 11)).toNatClampNeg l2))) 3 (upd (((((va_up o14.2 1 (upd ((o14.2 1)) ((o14.1 11)).toNatClampNeg l1)))) 3)) ((o14.1 11)).toNatClampNeg l3))) 4 (upd (((((va_up ((va_up o14.2 1 (upd ((o14.2 1)) ((o14.1 11)).toNatClampNeg l1))) 2 (upd ((o14.2 2)) ((o14.1 11)).toNatClampNeg l2)))) 4)) ((o14.1 11)).toNatClampNeg l3))) 5 (upd (((((va_up ((va_up ((va_up o14.2 1 (upd ((o14.2 1)) ((o14.1 11)).toNatClampNeg l1))) 2 (upd ((o14.2 2)) ((o14.1 11)).toNatClampNeg l2))) 3 (upd (((((va_up o14.2 1 (upd ((o14.2 1)) ((o14.1 11)).toNatClampNeg l1)))) 3)) ((o14.1 11)).toNatClampNeg l3)))) 5)) ((o14.1 11)).toNatClampNeg l4)))) 7)) (w' := (zwM c q ((o14.1, (va_up ((va_up ((va_up ((va_up ((va_up ((va_up ((va_up o14.2 1 (upd ((o14.2 1)) ((o14.1 11)).toNatClampNeg l1))) 2 (upd ((o14.2 2)) ((o14.1 11)).toNatClampNeg l2))) 3 (upd (((((va_up o14.2 1 (upd ((o14.2 1)) ((o14.1 11)).toNatClampNeg l1)))) 3)) ((o14.1 11)).toNatClampNeg l3))) 4 (upd (((((va_up ((va_up o14.2 1 (upd ((o14.2 1)) ((o14.1 11)).toNatClampNeg l1))) 2 (upd ((o14.2 2)) ((o14.1 11)).toNatClampNeg l2)))) 4)) ((o14.1 11)).toNatClampNeg l3))) 5 (upd (((((va_up ((va_up ((va_up o14.2 1 (upd ((o14.2 1)) ((o14.1 11)).toNatClampNeg l1))) 2 (upd ((o14.2 2)) ((o14.1 11)).toNatClampNeg l2))) 3 (upd (((((va_up o14.2 1 (upd ((o14.2 1)) ((o14.1 11)).toNatClampNeg l1)))) 3)) ((o14.1 11)).toNatClampNeg l3)))) 5)) ((o14.1 11)).toNatClampNeg l4))) 6 (upd (((((va_up ((va_up ((va_up ((va_up o14.2 1 (upd ((o14.2 1)) ((o14.1 11)).toNatClampNeg l1))) 2 (upd ((o14.2 2)) ((o14.1 11)).toNatClampNeg l2))) 3 (upd (((((va_up o14.2 1 (upd ((o14.2 1)) ((o14.1 11)).toNatClampNeg l1)))) 3)) ((o14.1 11)).toNatClampNeg l3))) 4 (upd (((((va_up ((va_up o14.2 1 (upd ((o14.2 1)) ((o14.1 11)).toNatClampNeg l1))) 2 (upd ((o14.2 2)) ((o14.1 11)).toNatClampNeg l2)))) 4)) ((o14.1 11)).toNatClampNeg l3)))) 6)) ((o14.1 11)).toNatClampNeg l5))) 7 (upd (((((va_up ((va_up ((va_up ((va_up ((va_up o14.2 1 (upd ((o14.2 1)) ((o14.1 11)).toNatClampNeg l1))) 2 (upd ((o14.2 2)) ((o14.1 11)).toNatClampNeg l2))) 3 (upd (((((va_up o14.2 1 (upd ((o14.2 1)) ((o14.1 11)).toNatClampNeg l1)))) 3)) ((o14.1 11)).toNatClampNeg l3))) 4 (upd (((((va_up ((va_up o14.2 1 (upd ((o14.2 1)) ((o14.1 11)).toNatClampNeg l1))) 2 (upd ((o14.2 2)) ((o14.1 11)).toNatClampNeg l2)))) 4)) ((o14.1 11)).toNatClampNeg l3))) 5 (upd (((((va_up ((va_up ((va_up o14.2 1 (upd ((o14.2 1)) ((o14.1 11)).toNatClampNeg l1))) 2 (upd ((o14.2 2)) ((o14.1 11)).toNatClampNeg l2))) 3 (upd (((((va_up o14.2 1 (upd ((o14.2 1)) ((o14.1 11)).toNatClampNeg l1)))) 3)) ((o14.1 11)).toNatClampNeg l3)))) 5)) ((o14.1 11)).toNatClampNeg l4)))) 7)) ((o14.1 11)).toNatClampNeg ((-5 : Int32)))))))) hX 8 rfl h (sa_Mo_8 c q ((o14.1, (va_up ((va_up ((va_up ((va_up ((va_up ((va_up o14.2 1 (upd ((o14.2 1)) ((o14.1 11)).toNatClampNeg l1))) 2 (upd ((o14.2 2)) ((o14.1 11)).toNatClampNeg l2))) 3 (upd (((((va_up o14.2 1 (upd ((o14.2 1)) ((o14.1 11)).toNatClampNeg l1)))) 3)) ((o14.1 11)).toNatClampNeg l3))) 4 (upd (((((va_up ((va_up o14.2 1 (upd ((o14.2 1)) ((o14.1 11)).toNatClampNeg l1))) 2 (upd ((o14.2 2)) ((o14.1 11)).toNatClampNeg l2)))) 4)) ((o14.1 11)).toNatClampNeg l3))) 5 (upd (((((va_up ((va_up ((va_up o14.2 1 (upd ((o14.2 1)) ((o14.1 11)).toNatClampNeg l1))) 2 (upd ((o14.2 2)) ((o14.1 11)).toNatClampNeg l2))) 3 (upd (((((va_up o14.2 1 (upd ((o14.2 1)) ((o14.1 11)).toNatClampNeg l1)))) 3)) ((o14.1 11)).toNatClampNeg l3)))) 5)) ((o14.1 11)).toNatClampNeg l4))) 6 (upd (((((va_up ((va_up ((va_up ((va_up o14.2 1 (upd ((o14.2 1)) ((o14.1 11)).toNatClampNeg l1))) 2 (upd ((o14.2 2)) ((o14.1 11)).toNatClampNeg l2))) 3 (upd (((((va_up o14.2 1 (upd ((o14.2 1)) ((o14.1 11)).toNatClampNeg l1)))) 3)) ((o14.1 11)).toNatClampNeg l3))) 4 (upd (((((va_up ((va_up o14.2 1 (upd ((o14.2 1)) ((o14.1 11)).toNatClampNeg l1))) 2 (upd ((o14.2 2)) ((o14.1 11)).toNatClampNeg l2)))) 4)) ((o14.1 11)).toNatClampNeg l3)))) 6)) ((o14.1 11)).toNatClampNeg l5)))) (upd (((((va_up ((va_up ((va_up ((va_up ((va_up o14.2 1 (upd ((o14.2 1)) ((o14.1 11)).toNatClampNeg l1))) 2 (upd ((o14.2 2)) ((o14.1 11)).toNatClampNeg l2))) 3 (upd (((((va_up o14.2 1 (upd ((o14.2 1)) ((o14.1 11)).toNatClampNeg l1)))) 3)) ((o14.1 11)).toNatClampNeg l3))) 4 (upd (((((va_up ((va_up o14.2 1 (upd ((o14.2 1)) ((o14.1 11)).toNatClampNeg l1))) 2 (upd ((o14.2 2)) ((o14.1 11)).toNatClampNeg l2)))) 4)) ((o14.1 11)).toNatClampNeg l3))) 5 (upd (((((va_up ((va_up ((va_up o14.2 1 (upd ((o14.2 1)) ((o14.1 11)).toNatClampNeg l1))) 2 (upd ((o14.2 2)) ((o14.1 11)).toNatClampNeg l2))) 3 (upd (((((va_up o14.2 1 (upd ((o14.2 1)) ((o14.1 11)).toNatClampNeg l1)))) 3)) ((o14.1 11)).toNatClampNeg l3)))) 5)) ((o14.1 11)).toNatClampNeg l4)))) 7)) ((o14.1 11)).toNatClampNeg ((-5 : Int32)))) d_Mo_add_148 (fun h => ?_)
                refine g_iconst (pc := 149) hX d_Mo_add_149 zc_0 ?_
                refine g_istore (pc := 150) (L' := [(7, .int ((0 : Int32))), (6, .int ((o14.1 11))), (0, .ref ((q 0))), (1, .int l1), (2, .int l2), (3, .int l3), (4, .int l4), (5, .int l5)]) hX d_Mo_add_150 rfl rfl ?_
                refine g_ls (L' := [(0, .ref ((q 0))), (3, .int l3), (6, .int ((o14.1 11))), (7, .int ((0 : Int32)))]) [2, 5, 1, 0] rfl ?_
                exact w_Mo_add_152 hX hR _ _ _ _ h
              · refine g_bipush (pc := 77) hX d_Mo_add_77 ze_m4 ?_
                obtain rfl := Option.some.inj h
                exact g_iret (pc := 79) hX hR d_Mo_add_79
            · refine g_aload_n (pc := 62) hX d_Mo_add_62 rfl 0 rfl ?_
              refine g_iconst (pc := 63) hX d_Mo_add_63 zc_5 ?_
              obtain ⟨o19, e19, h⟩ := zbind h
              refine g_cvI (pc := 64) (w1 := []) (w2 := []) (st := []) (w' := (zwM c q o19.2)) hX zk_Mo_refuses zs_Mo_refuses zL_Mo_172 (c_Mo_refuses c q x ((5 : Int32)) e19) rfl rfl rfl rfl (zself _) (zself _).symm 0 10 rfl rfl rfl d_Mo_add_64 ?_
              obtain rfl := Option.some.inj h
              exact g_iret (pc := 67) hX hR d_Mo_add_67
          · refine g_bipush (pc := 51) hX d_Mo_add_51 ze_m2 ?_
            obtain rfl := Option.some.inj h
            exact g_iret (pc := 53) hX hR d_Mo_add_53
    · refine g_iconst (pc := 16) hX d_Mo_add_16 zc_m1 ?_
      obtain rfl := Option.some.inj h
      exact g_iret (pc := 17) hX hR d_Mo_add_17)
theorem d_Mo_wall_0 : decode zb_Mo_wall 0 = .ok (.iload_n 1, 1) := by decide +kernel
theorem d_Mo_wall_1 : decode zb_Mo_wall 1 = .ok (.invokestatic 166, 3) := by decide +kernel
theorem d_Mo_wall_4 : decode zb_Mo_wall 4 = .ok (.ifCond .ne 5, 3) := by decide +kernel
theorem d_Mo_wall_7 : decode zb_Mo_wall 7 = .ok (.iconst (-1), 1) := by decide +kernel
theorem d_Mo_wall_8 : decode zb_Mo_wall 8 = .ok (.ireturn, 1) := by decide +kernel
theorem d_Mo_wall_9 : decode zb_Mo_wall 9 = .ok (.aload_n 0, 1) := by decide +kernel
theorem d_Mo_wall_10 : decode zb_Mo_wall 10 = .ok (.iload_n 1, 1) := by decide +kernel
theorem d_Mo_wall_11 : decode zb_Mo_wall 11 = .ok (.invokevirtual 88, 3) := by decide +kernel
theorem d_Mo_wall_14 : decode zb_Mo_wall 14 = .ok (.ifCond .lt 9, 3) := by decide +kernel
theorem d_Mo_wall_17 : decode zb_Mo_wall 17 = .ok (.aload_n 0, 1) := by decide +kernel
theorem d_Mo_wall_18 : decode zb_Mo_wall 18 = .ok (.iconst 5, 1) := by decide +kernel
theorem d_Mo_wall_19 : decode zb_Mo_wall 19 = .ok (.invokevirtual 172, 3) := by decide +kernel
theorem d_Mo_wall_22 : decode zb_Mo_wall 22 = .ok (.ireturn, 1) := by decide +kernel
theorem d_Mo_wall_23 : decode zb_Mo_wall 23 = .ok (.aload_n 0, 1) := by decide +kernel
theorem d_Mo_wall_24 : decode zb_Mo_wall 24 = .ok (.invokevirtual 175, 3) := by decide +kernel
theorem d_Mo_wall_27 : decode zb_Mo_wall 27 = .ok (.aload_n 0, 1) := by decide +kernel
theorem d_Mo_wall_28 : decode zb_Mo_wall 28 = .ok (.getfield 7, 3) := by decide +kernel
theorem d_Mo_wall_31 : decode zb_Mo_wall 31 = .ok (.iload_n 1, 1) := by decide +kernel
theorem d_Mo_wall_32 : decode zb_Mo_wall 32 = .ok (.iconst 1, 1) := by decide +kernel
theorem d_Mo_wall_33 : decode zb_Mo_wall 33 = .ok (.aload_n 0, 1) := by decide +kernel
theorem d_Mo_wall_34 : decode zb_Mo_wall 34 = .ok (.getfield 7, 3) := by decide +kernel
theorem d_Mo_wall_37 : decode zb_Mo_wall 37 = .ok (.iload_n 1, 1) := by decide +kernel
theorem d_Mo_wall_38 : decode zb_Mo_wall 38 = .ok (.iaload, 1) := by decide +kernel
theorem d_Mo_wall_39 : decode zb_Mo_wall 39 = .ok (.isub, 1) := by decide +kernel
theorem d_Mo_wall_40 : decode zb_Mo_wall 40 = .ok (.iastore, 1) := by decide +kernel
theorem d_Mo_wall_41 : decode zb_Mo_wall 41 = .ok (.aload_n 0, 1) := by decide +kernel
theorem d_Mo_wall_42 : decode zb_Mo_wall 42 = .ok (.getfield 7, 3) := by decide +kernel
theorem d_Mo_wall_45 : decode zb_Mo_wall 45 = .ok (.iload_n 1, 1) := by decide +kernel
theorem d_Mo_wall_46 : decode zb_Mo_wall 46 = .ok (.iaload, 1) := by decide +kernel
theorem d_Mo_wall_47 : decode zb_Mo_wall 47 = .ok (.ireturn, 1) := by decide +kernel
def k_Mo_wall (x : zsM) (l1 : Int32) : Option (Int32 × zsM) := (k_Mo_isCell l1).bind fun o1 => (if o1 = 0 then some ((-1 : Int32), x) else (k_Mo_fighterOn x l1).bind fun o3 => (if o3 < 0 then (k_Mo_remembers x).bind fun o5 => (if zOut l1 100 then none else (if zOut l1 100 then none else (if zOut l1 100 then none else some ((((upd ((o5.2 0)) l1.toNatClampNeg (((1 : Int32) - (((o5.2 0)) l1.toNatClampNeg))))) l1.toNatClampNeg), (o5.1, (va_up o5.2 0 (upd ((o5.2 0)) l1.toNatClampNeg (((1 : Int32) - (((o5.2 0)) l1.toNatClampNeg)))))))))) else (k_Mo_refuses x ((5 : Int32))).bind fun o6 => some (o6.1, o6.2)))
set_option maxRecDepth 20000 in
theorem c_Mo_wall (c : zY) (q : Nat → Nat) (x : zsM) (l1 : Int32) {out : Int32 × zsM} (h : k_Mo_wall x l1 = some out) : KM zy_Mo_wall zb_Mo_wall 2 (some .int) 4 c [.ref ((q 0)), .int l1] (zwM c q x) (zwM c q out.2) (some (.int out.1)) := zK_of zp_Mo rfl (Nat.le_of_ble_eq_true rfl) (zq_Mo c q _ _) (fun X hX hR => by
  show Go X (zwM c q x) [(0, .ref ((q 0))), (1, .int l1)] 0 []
  rw [k_Mo_wall] at h
  refine g_iload_n (pc := 0) hX d_Mo_wall_0 rfl 1 rfl ?_
  obtain ⟨o1, e1, h⟩ := zbind h
  refine g_csI (pc := 1) (st := []) hX zk_Mo_isCell zL_Mo_166 (c_Mo_isCell c l1 e1) rfl rfl rfl rfl rfl d_Mo_wall_1 ?_
  refine g_if_ne (pc := 4) (tgt := 9) hX d_Mo_wall_4 (by decide) h (fun c2 h => ?_) (fun c2 h => ?_)
  · refine g_aload_n (pc := 9) hX d_Mo_wall_9 rfl 0 rfl ?_
    refine g_iload_n (pc := 10) hX d_Mo_wall_10 rfl 1 rfl ?_
    obtain ⟨o3, e3, h⟩ := zbind h
    refine g_cvI (pc := 11) (w1 := []) (w2 := []) (st := []) (w' := (zwM c q x)) hX zk_Mo_fighterOn zs_Mo_fighterOn zL_Mo_88 (c_Mo_fighterOn c q x l1 e3) rfl rfl rfl rfl (zself _) (zself _).symm 0 10 rfl rfl rfl d_Mo_wall_11 ?_
    refine g_if_lt (pc := 14) (tgt := 23) hX d_Mo_wall_14 (by decide) h (fun c4 h => ?_) (fun c4 h => ?_)
    · refine g_aload_n (pc := 23) hX d_Mo_wall_23 rfl 0 rfl ?_
      obtain ⟨o5, e5, h⟩ := zbind h
      refine g_cvV (pc := 24) (w1 := []) (w2 := []) (st := []) (w' := (zwM c q o5)) hX zk_Mo_remembers zs_Mo_remembers zL_Mo_175 (c_Mo_remembers c q x e5) rfl rfl rfl rfl (zself _) (zself _).symm 0 10 rfl rfl rfl d_Mo_wall_24 ?_
      refine g_aload_n (pc := 27) hX d_Mo_wall_27 rfl 0 rfl ?_
      refine gf_Mo_7 (pc := 28) (v := .ref ((q 1))) hX 0 rfl rfl d_Mo_wall_28 ?_
      refine g_iload_n (pc := 31) hX d_Mo_wall_31 rfl 1 rfl ?_
      refine g_iconst (pc := 32) hX d_Mo_wall_32 zc_1 ?_
      refine g_aload_n (pc := 33) hX d_Mo_wall_33 rfl 0 rfl ?_
      refine gf_Mo_7 (pc := 34) (v := .ref ((q 1))) hX 0 rfl rfl d_Mo_wall_34 ?_
      refine g_iload_n (pc := 37) hX d_Mo_wall_37 rfl 1 rfl ?_
      refine g_iald (pc := 38) (f := (o5.2 0)) hX 1 rfl h d_Mo_wall_38 (fun h => ?_)
      refine g_isub (pc := 39) hX d_Mo_wall_39 ?_
      refine g_iast (pc := 40) (f := (o5.2 0)) (w' := (zwM c q ((o5.1, (va_up o5.2 0 (upd ((o5.2 0)) l1.toNatClampNeg (((1 : Int32) - (((o5.2 0)) l1.toNatClampNeg))))))))) hX 1 rfl h (sa_Mo_1 c q o5 (upd ((o5.2 0)) l1.toNatClampNeg (((1 : Int32) - (((o5.2 0)) l1.toNatClampNeg))))) d_Mo_wall_40 (fun h => ?_)
      refine g_aload_n (pc := 41) hX d_Mo_wall_41 rfl 0 rfl ?_
      refine gf_Mo_7 (pc := 42) (v := .ref ((q 1))) hX 0 rfl rfl d_Mo_wall_42 ?_
      refine g_iload_n (pc := 45) hX d_Mo_wall_45 rfl 1 rfl ?_
      refine g_iald (pc := 46) (f := (upd ((o5.2 0)) l1.toNatClampNeg (((1 : Int32) - (((o5.2 0)) l1.toNatClampNeg))))) hX 1 rfl h d_Mo_wall_46 (fun h => ?_)
      obtain rfl := Option.some.inj h
      exact g_iret (pc := 47) hX hR d_Mo_wall_47
    · refine g_aload_n (pc := 17) hX d_Mo_wall_17 rfl 0 rfl ?_
      refine g_iconst (pc := 18) hX d_Mo_wall_18 zc_5 ?_
      obtain ⟨o6, e6, h⟩ := zbind h
      refine g_cvI (pc := 19) (w1 := []) (w2 := []) (st := []) (w' := (zwM c q o6.2)) hX zk_Mo_refuses zs_Mo_refuses zL_Mo_172 (c_Mo_refuses c q x ((5 : Int32)) e6) rfl rfl rfl rfl (zself _) (zself _).symm 0 10 rfl rfl rfl d_Mo_wall_19 ?_
      obtain rfl := Option.some.inj h
      exact g_iret (pc := 22) hX hR d_Mo_wall_22
  · refine g_iconst (pc := 7) hX d_Mo_wall_7 zc_m1 ?_
    obtain rfl := Option.some.inj h
    exact g_iret (pc := 8) hX hR d_Mo_wall_8)
theorem d_Mo_amount_0 : decode zb_Mo_amount 0 = .ok (.aload_n 0, 1) := by decide +kernel
theorem d_Mo_amount_1 : decode zb_Mo_amount 1 = .ok (.iload_n 1, 1) := by decide +kernel
theorem d_Mo_amount_2 : decode zb_Mo_amount 2 = .ok (.invokevirtual 178, 3) := by decide +kernel
theorem d_Mo_amount_5 : decode zb_Mo_amount 5 = .ok (.ifCond .eq 12, 3) := by decide +kernel
theorem d_Mo_amount_8 : decode zb_Mo_amount 8 = .ok (.iload_n 2, 1) := by decide +kernel
theorem d_Mo_amount_9 : decode zb_Mo_amount 9 = .ok (.iconst 0, 1) := by decide +kernel
theorem d_Mo_amount_10 : decode zb_Mo_amount 10 = .ok (.iconst 2, 1) := by decide +kernel
theorem d_Mo_amount_11 : decode zb_Mo_amount 11 = .ok (.invokestatic 84, 3) := by decide +kernel
theorem d_Mo_amount_14 : decode zb_Mo_amount 14 = .ok (.ifCond .ne 5, 3) := by decide +kernel
theorem d_Mo_amount_17 : decode zb_Mo_amount 17 = .ok (.iconst (-1), 1) := by decide +kernel
theorem d_Mo_amount_18 : decode zb_Mo_amount 18 = .ok (.ireturn, 1) := by decide +kernel
theorem d_Mo_amount_19 : decode zb_Mo_amount 19 = .ok (.iload_n 3, 1) := by decide +kernel
theorem d_Mo_amount_20 : decode zb_Mo_amount 20 = .ok (.iconst 0, 1) := by decide +kernel
theorem d_Mo_amount_21 : decode zb_Mo_amount 21 = .ok (.bipush 9, 2) := by decide +kernel
theorem d_Mo_amount_23 : decode zb_Mo_amount 23 = .ok (.invokestatic 84, 3) := by decide +kernel
theorem d_Mo_amount_26 : decode zb_Mo_amount 26 = .ok (.ifCond .ne 6, 3) := by decide +kernel
theorem d_Mo_amount_29 : decode zb_Mo_amount 29 = .ok (.bipush (-2), 2) := by decide +kernel
theorem d_Mo_amount_31 : decode zb_Mo_amount 31 = .ok (.ireturn, 1) := by decide +kernel
theorem d_Mo_amount_32 : decode zb_Mo_amount 32 = .ok (.aload_n 0, 1) := by decide +kernel
theorem d_Mo_amount_33 : decode zb_Mo_amount 33 = .ok (.getfield 181, 3) := by decide +kernel
theorem d_Mo_amount_36 : decode zb_Mo_amount 36 = .ok (.iconst 1, 1) := by decide +kernel
theorem d_Mo_amount_37 : decode zb_Mo_amount 37 = .ok (.if_icmp .ne 9, 3) := by decide +kernel
theorem d_Mo_amount_40 : decode zb_Mo_amount 40 = .ok (.aload_n 0, 1) := by decide +kernel
theorem d_Mo_amount_41 : decode zb_Mo_amount 41 = .ok (.iconst 2, 1) := by decide +kernel
theorem d_Mo_amount_42 : decode zb_Mo_amount 42 = .ok (.invokevirtual 172, 3) := by decide +kernel
theorem d_Mo_amount_45 : decode zb_Mo_amount 45 = .ok (.ireturn, 1) := by decide +kernel
theorem d_Mo_amount_46 : decode zb_Mo_amount 46 = .ok (.aload_n 0, 1) := by decide +kernel
theorem d_Mo_amount_47 : decode zb_Mo_amount 47 = .ok (.invokevirtual 175, 3) := by decide +kernel
theorem d_Mo_amount_50 : decode zb_Mo_amount 50 = .ok (.aload_n 0, 1) := by decide +kernel
theorem d_Mo_amount_51 : decode zb_Mo_amount 51 = .ok (.getfield 37, 3) := by decide +kernel
theorem d_Mo_amount_54 : decode zb_Mo_amount 54 = .ok (.iconst 3, 1) := by decide +kernel
theorem d_Mo_amount_55 : decode zb_Mo_amount 55 = .ok (.iload_n 1, 1) := by decide +kernel
theorem d_Mo_amount_56 : decode zb_Mo_amount 56 = .ok (.imul, 1) := by decide +kernel
theorem d_Mo_amount_57 : decode zb_Mo_amount 57 = .ok (.iload_n 2, 1) := by decide +kernel
theorem d_Mo_amount_58 : decode zb_Mo_amount 58 = .ok (.iadd, 1) := by decide +kernel
theorem d_Mo_amount_59 : decode zb_Mo_amount 59 = .ok (.iaload, 1) := by decide +kernel
theorem d_Mo_amount_60 : decode zb_Mo_amount 60 = .ok (.istore 4, 2) := by decide +kernel
theorem d_Mo_amount_62 : decode zb_Mo_amount 62 = .ok (.aload_n 0, 1) := by decide +kernel
theorem d_Mo_amount_63 : decode zb_Mo_amount 63 = .ok (.getfield 37, 3) := by decide +kernel
theorem d_Mo_amount_66 : decode zb_Mo_amount 66 = .ok (.iconst 3, 1) := by decide +kernel
theorem d_Mo_amount_67 : decode zb_Mo_amount 67 = .ok (.iload_n 1, 1) := by decide +kernel
theorem d_Mo_amount_68 : decode zb_Mo_amount 68 = .ok (.imul, 1) := by decide +kernel
theorem d_Mo_amount_69 : decode zb_Mo_amount 69 = .ok (.iload_n 2, 1) := by decide +kernel
theorem d_Mo_amount_70 : decode zb_Mo_amount 70 = .ok (.iadd, 1) := by decide +kernel
theorem d_Mo_amount_71 : decode zb_Mo_amount 71 = .ok (.iload_n 3, 1) := by decide +kernel
theorem d_Mo_amount_72 : decode zb_Mo_amount 72 = .ok (.iastore, 1) := by decide +kernel
theorem d_Mo_amount_73 : decode zb_Mo_amount 73 = .ok (.aload_n 0, 1) := by decide +kernel
theorem d_Mo_amount_74 : decode zb_Mo_amount 74 = .ok (.getfield 34, 3) := by decide +kernel
theorem d_Mo_amount_77 : decode zb_Mo_amount 77 = .ok (.iconst 3, 1) := by decide +kernel
theorem d_Mo_amount_78 : decode zb_Mo_amount 78 = .ok (.iload_n 1, 1) := by decide +kernel
theorem d_Mo_amount_79 : decode zb_Mo_amount 79 = .ok (.imul, 1) := by decide +kernel
theorem d_Mo_amount_80 : decode zb_Mo_amount 80 = .ok (.iload_n 2, 1) := by decide +kernel
theorem d_Mo_amount_81 : decode zb_Mo_amount 81 = .ok (.iadd, 1) := by decide +kernel
theorem d_Mo_amount_82 : decode zb_Mo_amount 82 = .ok (.iload_n 3, 1) := by decide +kernel
theorem d_Mo_amount_83 : decode zb_Mo_amount 83 = .ok (.iastore, 1) := by decide +kernel
theorem d_Mo_amount_84 : decode zb_Mo_amount 84 = .ok (.iload 4, 2) := by decide +kernel
theorem d_Mo_amount_86 : decode zb_Mo_amount 86 = .ok (.ireturn, 1) := by decide +kernel
def k_Mo_amount (x : zsM) (l1 : Int32) (l2 : Int32) (l3 : Int32) : Option (Int32 × zsM) := (k_Mo_isFighter x l1).bind fun o1 => (if o1 = 0 then some ((-1 : Int32), x) else (k_Mo_isBetween l2 ((0 : Int32)) ((2 : Int32))).bind fun o3 => (if o3 = 0 then some ((-1 : Int32), x) else (k_Mo_isBetween l3 ((0 : Int32)) ((9 : Int32))).bind fun o5 => (if o5 = 0 then some ((-2 : Int32), x) else (if (x.1 19) = (1 : Int32) then (k_Mo_refuses x ((2 : Int32))).bind fun o9 => some (o9.1, o9.2) else (k_Mo_remembers x).bind fun o8 => (if zOut ((((3 : Int32) * l1) + l2)) 24 then none else (if zOut ((((3 : Int32) * l1) + l2)) 24 then none else (if zOut ((((3 : Int32) * l1) + l2)) 24 then none else some ((((o8.2 9)) ((((3 : Int32) * l1) + l2)).toNatClampNeg), (o8.1, (va_up ((va_up o8.2 9 (upd ((o8.2 9)) ((((3 : Int32) * l1) + l2)).toNatClampNeg l3))) 8 (upd ((o8.2 8)) ((((3 : Int32) * l1) + l2)).toNatClampNeg l3)))))))))))
set_option maxRecDepth 20000 in
theorem c_Mo_amount (c : zY) (q : Nat → Nat) (x : zsM) (l1 : Int32) (l2 : Int32) (l3 : Int32) {out : Int32 × zsM} (h : k_Mo_amount x l1 l2 l3 = some out) : KM zy_Mo_amount zb_Mo_amount 5 (some .int) 4 c [.ref ((q 0)), .int l1, .int l2, .int l3] (zwM c q x) (zwM c q out.2) (some (.int out.1)) := zK_of zp_Mo rfl (Nat.le_of_ble_eq_true rfl) (zq_Mo c q _ _) (fun X hX hR => by
  show Go X (zwM c q x) [(0, .ref ((q 0))), (1, .int l1), (2, .int l2), (3, .int l3)] 0 []
  rw [k_Mo_amount] at h
  refine g_aload_n (pc := 0) hX d_Mo_amount_0 rfl 0 rfl ?_
  refine g_iload_n (pc := 1) hX d_Mo_amount_1 rfl 1 rfl ?_
  obtain ⟨o1, e1, h⟩ := zbind h
  refine g_cvI (pc := 2) (w1 := []) (w2 := []) (st := []) (w' := (zwM c q x)) hX zk_Mo_isFighter zs_Mo_isFighter zL_Mo_178 (c_Mo_isFighter c q x l1 e1) rfl rfl rfl rfl (zself _) (zself _).symm 0 10 rfl rfl rfl d_Mo_amount_2 ?_
  refine g_if_eq (pc := 5) (tgt := 17) hX d_Mo_amount_5 (by decide) h (fun c2 h => ?_) (fun c2 h => ?_)
  · refine g_iconst (pc := 17) hX d_Mo_amount_17 zc_m1 ?_
    obtain rfl := Option.some.inj h
    exact g_iret (pc := 18) hX hR d_Mo_amount_18
  · refine g_iload_n (pc := 8) hX d_Mo_amount_8 rfl 2 rfl ?_
    refine g_iconst (pc := 9) hX d_Mo_amount_9 zc_0 ?_
    refine g_iconst (pc := 10) hX d_Mo_amount_10 zc_2 ?_
    obtain ⟨o3, e3, h⟩ := zbind h
    refine g_csI (pc := 11) (st := []) hX zk_Mo_isBetween zL_Mo_84 (c_Mo_isBetween c l2 ((0 : Int32)) ((2 : Int32)) e3) rfl rfl rfl rfl rfl d_Mo_amount_11 ?_
    refine g_if_ne (pc := 14) (tgt := 19) hX d_Mo_amount_14 (by decide) h (fun c4 h => ?_) (fun c4 h => ?_)
    · refine g_iload_n (pc := 19) hX d_Mo_amount_19 rfl 3 rfl ?_
      refine g_iconst (pc := 20) hX d_Mo_amount_20 zc_0 ?_
      refine g_bipush (pc := 21) hX d_Mo_amount_21 ze_9 ?_
      obtain ⟨o5, e5, h⟩ := zbind h
      refine g_csI (pc := 23) (st := []) hX zk_Mo_isBetween zL_Mo_84 (c_Mo_isBetween c l3 ((0 : Int32)) ((9 : Int32)) e5) rfl rfl rfl rfl rfl d_Mo_amount_23 ?_
      refine g_if_ne (pc := 26) (tgt := 32) hX d_Mo_amount_26 (by decide) h (fun c6 h => ?_) (fun c6 h => ?_)
      · refine g_aload_n (pc := 32) hX d_Mo_amount_32 rfl 0 rfl ?_
        refine gf_Mo_181 (pc := 33) (v := .int ((x.1 19))) hX 0 rfl rfl d_Mo_amount_33 ?_
        refine g_iconst (pc := 36) hX d_Mo_amount_36 zc_1 ?_
        refine g_icmp_ne (pc := 37) (tgt := 46) hX d_Mo_amount_37 (by decide) h (fun c7 h => ?_) (fun c7 h => ?_)
        · refine g_aload_n (pc := 46) hX d_Mo_amount_46 rfl 0 rfl ?_
          obtain ⟨o8, e8, h⟩ := zbind h
          refine g_cvV (pc := 47) (w1 := []) (w2 := []) (st := []) (w' := (zwM c q o8)) hX zk_Mo_remembers zs_Mo_remembers zL_Mo_175 (c_Mo_remembers c q x e8) rfl rfl rfl rfl (zself _) (zself _).symm 0 10 rfl rfl rfl d_Mo_amount_47 ?_
          refine g_aload_n (pc := 50) hX d_Mo_amount_50 rfl 0 rfl ?_
          refine gf_Mo_37 (pc := 51) (v := .ref ((q 10))) hX 0 rfl rfl d_Mo_amount_51 ?_
          refine g_iconst (pc := 54) hX d_Mo_amount_54 zc_3 ?_
          refine g_iload_n (pc := 55) hX d_Mo_amount_55 rfl 1 rfl ?_
          refine g_imul (pc := 56) hX d_Mo_amount_56 ?_
          refine g_iload_n (pc := 57) hX d_Mo_amount_57 rfl 2 rfl ?_
          refine g_iadd (pc := 58) hX d_Mo_amount_58 ?_
          refine g_iald (pc := 59) (f := (o8.2 9)) hX 10 rfl h d_Mo_amount_59 (fun h => ?_)
          refine g_istore (pc := 60) (L' := [(4, .int ((((o8.2 9)) ((((3 : Int32) * l1) + l2)).toNatClampNeg))), (0, .ref ((q 0))), (1, .int l1), (2, .int l2), (3, .int l3)]) hX d_Mo_amount_60 rfl rfl ?_
          refine g_aload_n (pc := 62) hX d_Mo_amount_62 rfl 1 rfl ?_
          refine gf_Mo_37 (pc := 63) (v := .ref ((q 10))) hX 0 rfl rfl d_Mo_amount_63 ?_
          refine g_iconst (pc := 66) hX d_Mo_amount_66 zc_3 ?_
          refine g_iload_n (pc := 67) hX d_Mo_amount_67 rfl 2 rfl ?_
          refine g_imul (pc := 68) hX d_Mo_amount_68 ?_
          refine g_iload_n (pc := 69) hX d_Mo_amount_69 rfl 3 rfl ?_
          refine g_iadd (pc := 70) hX d_Mo_amount_70 ?_
          refine g_iload_n (pc := 71) hX d_Mo_amount_71 rfl 4 rfl ?_
          refine g_iast (pc := 72) (f := (o8.2 9)) (w' := (zwM c q ((o8.1, (va_up o8.2 9 (upd ((o8.2 9)) ((((3 : Int32) * l1) + l2)).toNatClampNeg l3)))))) hX 10 rfl h (sa_Mo_10 c q o8 (upd ((o8.2 9)) ((((3 : Int32) * l1) + l2)).toNatClampNeg l3)) d_Mo_amount_72 (fun h => ?_)
          refine g_aload_n (pc := 73) hX d_Mo_amount_73 rfl 1 rfl ?_
          refine gf_Mo_34 (pc := 74) (v := .ref ((q 9))) hX 0 rfl rfl d_Mo_amount_74 ?_
          refine g_iconst (pc := 77) hX d_Mo_amount_77 zc_3 ?_
          refine g_iload_n (pc := 78) hX d_Mo_amount_78 rfl 2 rfl ?_
          refine g_imul (pc := 79) hX d_Mo_amount_79 ?_
          refine g_iload_n (pc := 80) hX d_Mo_amount_80 rfl 3 rfl ?_
          refine g_iadd (pc := 81) hX d_Mo_amount_81 ?_
          refine g_iload_n (pc := 82) hX d_Mo_amount_82 rfl 4 rfl ?_
          refine g_iast (pc := 83) (f := (o8.2 8)) (w' := (zwM c q ((o8.1, (va_up ((va_up o8.2 9 (upd ((o8.2 9)) ((((3 : Int32) * l1) + l2)).toNatClampNeg l3))) 8 (upd ((o8.2 8)) ((((3 : Int32) * l1) + l2)).toNatClampNeg l3)))))) hX 9 rfl h (sa_Mo_9 c q ((o8.1, (va_up o8.2 9 (upd ((o8.2 9)) ((((3 : Int32) * l1) + l2)).toNatClampNeg l3)))) (upd ((o8.2 8)) ((((3 : Int32) * l1) + l2)).toNatClampNeg l3)) d_Mo_amount_83 (fun h => ?_)
          refine g_iload (pc := 84) hX d_Mo_amount_84 0 rfl ?_
          obtain rfl := Option.some.inj h
          exact g_iret (pc := 86) hX hR d_Mo_amount_86
        · refine g_aload_n (pc := 40) hX d_Mo_amount_40 rfl 0 rfl ?_
          refine g_iconst (pc := 41) hX d_Mo_amount_41 zc_2 ?_
          obtain ⟨o9, e9, h⟩ := zbind h
          refine g_cvI (pc := 42) (w1 := []) (w2 := []) (st := []) (w' := (zwM c q o9.2)) hX zk_Mo_refuses zs_Mo_refuses zL_Mo_172 (c_Mo_refuses c q x ((2 : Int32)) e9) rfl rfl rfl rfl (zself _) (zself _).symm 0 10 rfl rfl rfl d_Mo_amount_42 ?_
          obtain rfl := Option.some.inj h
          exact g_iret (pc := 45) hX hR d_Mo_amount_45
      · refine g_bipush (pc := 29) hX d_Mo_amount_29 ze_m2 ?_
        obtain rfl := Option.some.inj h
        exact g_iret (pc := 31) hX hR d_Mo_amount_31
    · refine g_iconst (pc := 17) hX d_Mo_amount_17 zc_m1 ?_
      obtain rfl := Option.some.inj h
      exact g_iret (pc := 18) hX hR d_Mo_amount_18)
theorem d_Mo_isAhead_0 : decode zb_Mo_isAhead 0 = .ok (.aload_n 0, 1) := by decide +kernel
theorem d_Mo_isAhead_1 : decode zb_Mo_isAhead 1 = .ok (.getfield 31, 3) := by decide +kernel
theorem d_Mo_isAhead_4 : decode zb_Mo_isAhead 4 = .ok (.iload_n 1, 1) := by decide +kernel
theorem d_Mo_isAhead_5 : decode zb_Mo_isAhead 5 = .ok (.iaload, 1) := by decide +kernel
theorem d_Mo_isAhead_6 : decode zb_Mo_isAhead 6 = .ok (.aload_n 0, 1) := by decide +kernel
theorem d_Mo_isAhead_7 : decode zb_Mo_isAhead 7 = .ok (.getfield 31, 3) := by decide +kernel
theorem d_Mo_isAhead_10 : decode zb_Mo_isAhead 10 = .ok (.iload_n 2, 1) := by decide +kernel
theorem d_Mo_isAhead_11 : decode zb_Mo_isAhead 11 = .ok (.iaload, 1) := by decide +kernel
theorem d_Mo_isAhead_12 : decode zb_Mo_isAhead 12 = .ok (.if_icmp .eq 26, 3) := by decide +kernel
theorem d_Mo_isAhead_15 : decode zb_Mo_isAhead 15 = .ok (.aload_n 0, 1) := by decide +kernel
theorem d_Mo_isAhead_16 : decode zb_Mo_isAhead 16 = .ok (.getfield 31, 3) := by decide +kernel
theorem d_Mo_isAhead_19 : decode zb_Mo_isAhead 19 = .ok (.iload_n 1, 1) := by decide +kernel
theorem d_Mo_isAhead_20 : decode zb_Mo_isAhead 20 = .ok (.iaload, 1) := by decide +kernel
theorem d_Mo_isAhead_21 : decode zb_Mo_isAhead 21 = .ok (.aload_n 0, 1) := by decide +kernel
theorem d_Mo_isAhead_22 : decode zb_Mo_isAhead 22 = .ok (.getfield 31, 3) := by decide +kernel
theorem d_Mo_isAhead_25 : decode zb_Mo_isAhead 25 = .ok (.iload_n 2, 1) := by decide +kernel
theorem d_Mo_isAhead_26 : decode zb_Mo_isAhead 26 = .ok (.iaload, 1) := by decide +kernel
theorem d_Mo_isAhead_27 : decode zb_Mo_isAhead 27 = .ok (.if_icmp .le 7, 3) := by decide +kernel
theorem d_Mo_isAhead_30 : decode zb_Mo_isAhead 30 = .ok (.iconst 1, 1) := by decide +kernel
theorem d_Mo_isAhead_31 : decode zb_Mo_isAhead 31 = .ok (.goto 27, 3) := by decide +kernel
theorem d_Mo_isAhead_34 : decode zb_Mo_isAhead 34 = .ok (.iconst 0, 1) := by decide +kernel
theorem d_Mo_isAhead_35 : decode zb_Mo_isAhead 35 = .ok (.goto 23, 3) := by decide +kernel
theorem d_Mo_isAhead_38 : decode zb_Mo_isAhead 38 = .ok (.aload_n 0, 1) := by decide +kernel
theorem d_Mo_isAhead_39 : decode zb_Mo_isAhead 39 = .ok (.getfield 25, 3) := by decide +kernel
theorem d_Mo_isAhead_42 : decode zb_Mo_isAhead 42 = .ok (.iload_n 1, 1) := by decide +kernel
theorem d_Mo_isAhead_43 : decode zb_Mo_isAhead 43 = .ok (.iaload, 1) := by decide +kernel
theorem d_Mo_isAhead_44 : decode zb_Mo_isAhead 44 = .ok (.aload_n 0, 1) := by decide +kernel
theorem d_Mo_isAhead_45 : decode zb_Mo_isAhead 45 = .ok (.getfield 25, 3) := by decide +kernel
theorem d_Mo_isAhead_48 : decode zb_Mo_isAhead 48 = .ok (.iload_n 2, 1) := by decide +kernel
theorem d_Mo_isAhead_49 : decode zb_Mo_isAhead 49 = .ok (.iaload, 1) := by decide +kernel
theorem d_Mo_isAhead_50 : decode zb_Mo_isAhead 50 = .ok (.if_icmp .le 7, 3) := by decide +kernel
theorem d_Mo_isAhead_53 : decode zb_Mo_isAhead 53 = .ok (.iconst 1, 1) := by decide +kernel
theorem d_Mo_isAhead_54 : decode zb_Mo_isAhead 54 = .ok (.goto 4, 3) := by decide +kernel
theorem d_Mo_isAhead_57 : decode zb_Mo_isAhead 57 = .ok (.iconst 0, 1) := by decide +kernel
theorem d_Mo_isAhead_58 : decode zb_Mo_isAhead 58 = .ok (.ireturn, 1) := by decide +kernel
def k_Mo_isAhead (x : zsM) (l1 : Int32) (l2 : Int32) : Option (Int32) := (if zOut l1 8 then none else (if zOut l2 8 then none else (if (((x.2 7)) l1.toNatClampNeg) = (((x.2 7)) l2.toNatClampNeg) then (if zOut l1 8 then none else (if zOut l2 8 then none else (if (((x.2 5)) l2.toNatClampNeg) < (((x.2 5)) l1.toNatClampNeg) then some ((1 : Int32)) else some ((0 : Int32))))) else (if zOut l1 8 then none else (if zOut l2 8 then none else (if (((x.2 7)) l2.toNatClampNeg) < (((x.2 7)) l1.toNatClampNeg) then some ((1 : Int32)) else some ((0 : Int32))))))))
set_option maxRecDepth 20000 in
theorem c_Mo_isAhead (c : zY) (q : Nat → Nat) (x : zsM) (l1 : Int32) (l2 : Int32) {out : Int32} (h : k_Mo_isAhead x l1 l2 = some out) : KM zy_Mo_isAhead zb_Mo_isAhead 3 (some .boolean) 0 c [.ref ((q 0)), .int l1, .int l2] (zwM c q x) (zwM c q x) (some (.int out)) := zK_of zp_Mo rfl (Nat.le_of_ble_eq_true rfl) (zq_Mo c q _ _) (fun X hX hR => by
  show Go X (zwM c q x) [(0, .ref ((q 0))), (1, .int l1), (2, .int l2)] 0 []
  rw [k_Mo_isAhead] at h
  refine g_aload_n (pc := 0) hX d_Mo_isAhead_0 rfl 0 rfl ?_
  refine gf_Mo_31 (pc := 1) (v := .ref ((q 8))) hX 0 rfl rfl d_Mo_isAhead_1 ?_
  refine g_iload_n (pc := 4) hX d_Mo_isAhead_4 rfl 1 rfl ?_
  refine g_iald (pc := 5) (f := (x.2 7)) hX 8 rfl h d_Mo_isAhead_5 (fun h => ?_)
  refine g_aload_n (pc := 6) hX d_Mo_isAhead_6 rfl 0 rfl ?_
  refine gf_Mo_31 (pc := 7) (v := .ref ((q 8))) hX 0 rfl rfl d_Mo_isAhead_7 ?_
  refine g_iload_n (pc := 10) hX d_Mo_isAhead_10 rfl 2 rfl ?_
  refine g_iald (pc := 11) (f := (x.2 7)) hX 8 rfl h d_Mo_isAhead_11 (fun h => ?_)
  refine g_icmp_eq (pc := 12) (tgt := 38) hX d_Mo_isAhead_12 (by decide) h (fun c1 h => ?_) (fun c1 h => ?_)
  · refine g_aload_n (pc := 38) hX d_Mo_isAhead_38 rfl 0 rfl ?_
    refine gf_Mo_25 (pc := 39) (v := .ref ((q 6))) hX 0 rfl rfl d_Mo_isAhead_39 ?_
    refine g_iload_n (pc := 42) hX d_Mo_isAhead_42 rfl 1 rfl ?_
    refine g_iald (pc := 43) (f := (x.2 5)) hX 6 rfl h d_Mo_isAhead_43 (fun h => ?_)
    refine g_aload_n (pc := 44) hX d_Mo_isAhead_44 rfl 0 rfl ?_
    refine gf_Mo_25 (pc := 45) (v := .ref ((q 6))) hX 0 rfl rfl d_Mo_isAhead_45 ?_
    refine g_iload_n (pc := 48) hX d_Mo_isAhead_48 rfl 2 rfl ?_
    refine g_iald (pc := 49) (f := (x.2 5)) hX 6 rfl h d_Mo_isAhead_49 (fun h => ?_)
    refine g_icmp_le (pc := 50) (tgt := 57) hX d_Mo_isAhead_50 (by decide) h (fun c2 h => ?_) (fun c2 h => ?_)
    · refine g_iconst (pc := 57) hX d_Mo_isAhead_57 zc_0 ?_
      obtain rfl := Option.some.inj h
      exact g_zret (pc := 58) hX hR (Or.inl rfl) d_Mo_isAhead_58
    · refine g_iconst (pc := 53) hX d_Mo_isAhead_53 zc_1 ?_
      refine g_goto (pc := 54) (tgt := 58) hX d_Mo_isAhead_54 (by decide) ?_
      obtain rfl := Option.some.inj h
      exact g_zret (pc := 58) hX hR (Or.inr rfl) d_Mo_isAhead_58
  · refine g_aload_n (pc := 15) hX d_Mo_isAhead_15 rfl 0 rfl ?_
    refine gf_Mo_31 (pc := 16) (v := .ref ((q 8))) hX 0 rfl rfl d_Mo_isAhead_16 ?_
    refine g_iload_n (pc := 19) hX d_Mo_isAhead_19 rfl 1 rfl ?_
    refine g_iald (pc := 20) (f := (x.2 7)) hX 8 rfl h d_Mo_isAhead_20 (fun h => ?_)
    refine g_aload_n (pc := 21) hX d_Mo_isAhead_21 rfl 0 rfl ?_
    refine gf_Mo_31 (pc := 22) (v := .ref ((q 8))) hX 0 rfl rfl d_Mo_isAhead_22 ?_
    refine g_iload_n (pc := 25) hX d_Mo_isAhead_25 rfl 2 rfl ?_
    refine g_iald (pc := 26) (f := (x.2 7)) hX 8 rfl h d_Mo_isAhead_26 (fun h => ?_)
    refine g_icmp_le (pc := 27) (tgt := 34) hX d_Mo_isAhead_27 (by decide) h (fun c3 h => ?_) (fun c3 h => ?_)
    · refine g_iconst (pc := 34) hX d_Mo_isAhead_34 zc_0 ?_
      refine g_goto (pc := 35) (tgt := 58) hX d_Mo_isAhead_35 (by decide) ?_
      obtain rfl := Option.some.inj h
      exact g_zret (pc := 58) hX hR (Or.inl rfl) d_Mo_isAhead_58
    · refine g_iconst (pc := 30) hX d_Mo_isAhead_30 zc_1 ?_
      refine g_goto (pc := 31) (tgt := 58) hX d_Mo_isAhead_31 (by decide) ?_
      obtain rfl := Option.some.inj h
      exact g_zret (pc := 58) hX hR (Or.inr rfl) d_Mo_isAhead_58)
theorem d_Mo_begin_0 : decode zb_Mo_begin 0 = .ok (.aload_n 0, 1) := by decide +kernel
theorem d_Mo_begin_1 : decode zb_Mo_begin 1 = .ok (.getfield 181, 3) := by decide +kernel
theorem d_Mo_begin_4 : decode zb_Mo_begin 4 = .ok (.iconst 1, 1) := by decide +kernel
theorem d_Mo_begin_5 : decode zb_Mo_begin 5 = .ok (.if_icmp .ne 9, 3) := by decide +kernel
theorem d_Mo_begin_8 : decode zb_Mo_begin 8 = .ok (.aload_n 0, 1) := by decide +kernel
theorem d_Mo_begin_9 : decode zb_Mo_begin 9 = .ok (.iconst 2, 1) := by decide +kernel
theorem d_Mo_begin_10 : decode zb_Mo_begin 10 = .ok (.invokevirtual 172, 3) := by decide +kernel
theorem d_Mo_begin_13 : decode zb_Mo_begin 13 = .ok (.ireturn, 1) := by decide +kernel
theorem d_Mo_begin_14 : decode zb_Mo_begin 14 = .ok (.aload_n 0, 1) := by decide +kernel
theorem d_Mo_begin_15 : decode zb_Mo_begin 15 = .ok (.getfield 81, 3) := by decide +kernel
theorem d_Mo_begin_18 : decode zb_Mo_begin 18 = .ok (.ifCond .ne 10, 3) := by decide +kernel
theorem d_Mo_begin_21 : decode zb_Mo_begin 21 = .ok (.aload_n 0, 1) := by decide +kernel
theorem d_Mo_begin_22 : decode zb_Mo_begin 22 = .ok (.bipush 10, 2) := by decide +kernel
theorem d_Mo_begin_24 : decode zb_Mo_begin 24 = .ok (.invokevirtual 172, 3) := by decide +kernel
theorem d_Mo_begin_27 : decode zb_Mo_begin 27 = .ok (.ireturn, 1) := by decide +kernel
theorem d_Mo_begin_28 : decode zb_Mo_begin 28 = .ok (.aload_n 0, 1) := by decide +kernel
theorem d_Mo_begin_29 : decode zb_Mo_begin 29 = .ok (.invokevirtual 175, 3) := by decide +kernel
theorem d_Mo_begin_32 : decode zb_Mo_begin 32 = .ok (.aload_n 0, 1) := by decide +kernel
theorem d_Mo_begin_33 : decode zb_Mo_begin 33 = .ok (.iload_n 1, 1) := by decide +kernel
theorem d_Mo_begin_34 : decode zb_Mo_begin 34 = .ok (.putfield 129, 3) := by decide +kernel
theorem d_Mo_begin_37 : decode zb_Mo_begin 37 = .ok (.iconst 0, 1) := by decide +kernel
theorem d_Mo_begin_38 : decode zb_Mo_begin 38 = .ok (.istore_n 2, 1) := by decide +kernel
theorem d_Mo_begin_39 : decode zb_Mo_begin 39 = .ok (.iload_n 2, 1) := by decide +kernel
theorem d_Mo_begin_40 : decode zb_Mo_begin 40 = .ok (.aload_n 0, 1) := by decide +kernel
theorem d_Mo_begin_41 : decode zb_Mo_begin 41 = .ok (.getfield 81, 3) := by decide +kernel
theorem d_Mo_begin_44 : decode zb_Mo_begin 44 = .ok (.if_icmp .ge 75, 3) := by decide +kernel
theorem d_Mo_begin_47 : decode zb_Mo_begin 47 = .ok (.aload_n 0, 1) := by decide +kernel
theorem d_Mo_begin_48 : decode zb_Mo_begin 48 = .ok (.getfield 31, 3) := by decide +kernel
theorem d_Mo_begin_51 : decode zb_Mo_begin 51 = .ok (.iload_n 2, 1) := by decide +kernel
theorem d_Mo_begin_52 : decode zb_Mo_begin 52 = .ok (.aload_n 0, 1) := by decide +kernel
theorem d_Mo_begin_53 : decode zb_Mo_begin 53 = .ok (.getfield 25, 3) := by decide +kernel
theorem d_Mo_begin_56 : decode zb_Mo_begin 56 = .ok (.iload_n 2, 1) := by decide +kernel
theorem d_Mo_begin_57 : decode zb_Mo_begin 57 = .ok (.iaload, 1) := by decide +kernel
theorem d_Mo_begin_58 : decode zb_Mo_begin 58 = .ok (.aload_n 0, 1) := by decide +kernel
theorem d_Mo_begin_59 : decode zb_Mo_begin 59 = .ok (.invokevirtual 184, 3) := by decide +kernel
theorem d_Mo_begin_62 : decode zb_Mo_begin 62 = .ok (.iadd, 1) := by decide +kernel
theorem d_Mo_begin_63 : decode zb_Mo_begin 63 = .ok (.iastore, 1) := by decide +kernel
theorem d_Mo_begin_64 : decode zb_Mo_begin 64 = .ok (.iload_n 2, 1) := by decide +kernel
theorem d_Mo_begin_65 : decode zb_Mo_begin 65 = .ok (.istore_n 3, 1) := by decide +kernel
theorem d_Mo_begin_66 : decode zb_Mo_begin 66 = .ok (.iload_n 3, 1) := by decide +kernel
theorem d_Mo_begin_67 : decode zb_Mo_begin 67 = .ok (.ifCond .le 39, 3) := by decide +kernel
theorem d_Mo_begin_70 : decode zb_Mo_begin 70 = .ok (.aload_n 0, 1) := by decide +kernel
theorem d_Mo_begin_71 : decode zb_Mo_begin 71 = .ok (.iload_n 2, 1) := by decide +kernel
theorem d_Mo_begin_72 : decode zb_Mo_begin 72 = .ok (.aload_n 0, 1) := by decide +kernel
theorem d_Mo_begin_73 : decode zb_Mo_begin 73 = .ok (.getfield 40, 3) := by decide +kernel
theorem d_Mo_begin_76 : decode zb_Mo_begin 76 = .ok (.iload_n 3, 1) := by decide +kernel
theorem d_Mo_begin_77 : decode zb_Mo_begin 77 = .ok (.iconst 1, 1) := by decide +kernel
theorem d_Mo_begin_78 : decode zb_Mo_begin 78 = .ok (.isub, 1) := by decide +kernel
theorem d_Mo_begin_79 : decode zb_Mo_begin 79 = .ok (.iaload, 1) := by decide +kernel
theorem d_Mo_begin_80 : decode zb_Mo_begin 80 = .ok (.invokevirtual 187, 3) := by decide +kernel
theorem d_Mo_begin_83 : decode zb_Mo_begin 83 = .ok (.ifCond .eq 23, 3) := by decide +kernel
theorem d_Mo_begin_86 : decode zb_Mo_begin 86 = .ok (.aload_n 0, 1) := by decide +kernel
theorem d_Mo_begin_87 : decode zb_Mo_begin 87 = .ok (.getfield 40, 3) := by decide +kernel
theorem d_Mo_begin_90 : decode zb_Mo_begin 90 = .ok (.iload_n 3, 1) := by decide +kernel
theorem d_Mo_begin_91 : decode zb_Mo_begin 91 = .ok (.aload_n 0, 1) := by decide +kernel
theorem d_Mo_begin_92 : decode zb_Mo_begin 92 = .ok (.getfield 40, 3) := by decide +kernel
theorem d_Mo_begin_95 : decode zb_Mo_begin 95 = .ok (.iload_n 3, 1) := by decide +kernel
theorem d_Mo_begin_96 : decode zb_Mo_begin 96 = .ok (.iconst 1, 1) := by decide +kernel
theorem d_Mo_begin_97 : decode zb_Mo_begin 97 = .ok (.isub, 1) := by decide +kernel
theorem d_Mo_begin_98 : decode zb_Mo_begin 98 = .ok (.iaload, 1) := by decide +kernel
theorem d_Mo_begin_99 : decode zb_Mo_begin 99 = .ok (.iastore, 1) := by decide +kernel
theorem d_Mo_begin_100 : decode zb_Mo_begin 100 = .ok (.iinc 3 (-1), 3) := by decide +kernel
theorem d_Mo_begin_103 : decode zb_Mo_begin 103 = .ok (.goto (-37), 3) := by decide +kernel
theorem d_Mo_begin_106 : decode zb_Mo_begin 106 = .ok (.aload_n 0, 1) := by decide +kernel
theorem d_Mo_begin_107 : decode zb_Mo_begin 107 = .ok (.getfield 40, 3) := by decide +kernel
theorem d_Mo_begin_110 : decode zb_Mo_begin 110 = .ok (.iload_n 3, 1) := by decide +kernel
theorem d_Mo_begin_111 : decode zb_Mo_begin 111 = .ok (.iload_n 2, 1) := by decide +kernel
theorem d_Mo_begin_112 : decode zb_Mo_begin 112 = .ok (.iastore, 1) := by decide +kernel
theorem d_Mo_begin_113 : decode zb_Mo_begin 113 = .ok (.iinc 2 1, 3) := by decide +kernel
theorem d_Mo_begin_116 : decode zb_Mo_begin 116 = .ok (.goto (-77), 3) := by decide +kernel
theorem d_Mo_begin_119 : decode zb_Mo_begin 119 = .ok (.aload_n 0, 1) := by decide +kernel
theorem d_Mo_begin_120 : decode zb_Mo_begin 120 = .ok (.aload_n 0, 1) := by decide +kernel
theorem d_Mo_begin_121 : decode zb_Mo_begin 121 = .ok (.getfield 81, 3) := by decide +kernel
theorem d_Mo_begin_124 : decode zb_Mo_begin 124 = .ok (.putfield 133, 3) := by decide +kernel
theorem d_Mo_begin_127 : decode zb_Mo_begin 127 = .ok (.aload_n 0, 1) := by decide +kernel
theorem d_Mo_begin_128 : decode zb_Mo_begin 128 = .ok (.iconst 1, 1) := by decide +kernel
theorem d_Mo_begin_129 : decode zb_Mo_begin 129 = .ok (.putfield 181, 3) := by decide +kernel
theorem d_Mo_begin_132 : decode zb_Mo_begin 132 = .ok (.aload_n 0, 1) := by decide +kernel
theorem d_Mo_begin_133 : decode zb_Mo_begin 133 = .ok (.iconst 0, 1) := by decide +kernel
theorem d_Mo_begin_134 : decode zb_Mo_begin 134 = .ok (.putfield 126, 3) := by decide +kernel
theorem d_Mo_begin_137 : decode zb_Mo_begin 137 = .ok (.aload_n 0, 1) := by decide +kernel
theorem d_Mo_begin_138 : decode zb_Mo_begin 138 = .ok (.iconst 1, 1) := by decide +kernel
theorem d_Mo_begin_139 : decode zb_Mo_begin 139 = .ok (.putfield 149, 3) := by decide +kernel
theorem d_Mo_begin_142 : decode zb_Mo_begin 142 = .ok (.aload_n 0, 1) := by decide +kernel
theorem d_Mo_begin_143 : decode zb_Mo_begin 143 = .ok (.dup, 1) := by decide +kernel
theorem d_Mo_begin_144 : decode zb_Mo_begin 144 = .ok (.getfield 191, 3) := by decide +kernel
theorem d_Mo_begin_147 : decode zb_Mo_begin 147 = .ok (.iconst 1, 1) := by decide +kernel
theorem d_Mo_begin_148 : decode zb_Mo_begin 148 = .ok (.iadd, 1) := by decide +kernel
theorem d_Mo_begin_149 : decode zb_Mo_begin 149 = .ok (.putfield 191, 3) := by decide +kernel
theorem d_Mo_begin_152 : decode zb_Mo_begin 152 = .ok (.aload_n 0, 1) := by decide +kernel
theorem d_Mo_begin_153 : decode zb_Mo_begin 153 = .ok (.invokevirtual 163, 3) := by decide +kernel
theorem d_Mo_begin_156 : decode zb_Mo_begin 156 = .ok (.aload_n 0, 1) := by decide +kernel
theorem d_Mo_begin_157 : decode zb_Mo_begin 157 = .ok (.invokevirtual 136, 3) := by decide +kernel
theorem d_Mo_begin_160 : decode zb_Mo_begin 160 = .ok (.ireturn, 1) := by decide +kernel
def k_Mo_begin_106 (l1 : Int32) (kf_39 : Int32 → zsM → Option (Int32 × zsM)) (l2 : Int32) (l3 : Int32) (x : zsM) : Option (Int32 × zsM) := (if zOut l3 8 then none else kf_39 ((l2 + (1 : Int32))) ((x.1, (va_up x.2 10 (upd ((x.2 10)) l3.toNatClampNeg l2)))))
set_option maxRecDepth 20000 in
theorem w_Mo_begin_106 {X : zX} {c : zY} {q : Nat → Nat} {l1 : Int32} {out : Int32 × zsM} {kf_39 : Int32 → zsM → Option (Int32 × zsM)} (hX : Ok X zr_Mo zb_Mo_begin 4 4 c) (hR : Rt X (some .int) (some (.int out.1)) (zwM c q out.2)) (hk_39 : ∀ (l2 : Int32) (x : zsM), kf_39 l2 x = some out → Go X (zwM c q x) [(0, .ref ((q 0))), (2, .int l2)] 39 []) : ∀ (l2 : Int32) (l3 : Int32) (x : zsM), k_Mo_begin_106 l1 kf_39 l2 l3 x = some out → Go X (zwM c q x) [(0, .ref ((q 0))), (2, .int l2), (3, .int l3)] 106 [] := by
  intro l2 l3 x h
  rw [k_Mo_begin_106] at h
  refine g_aload_n (pc := 106) hX d_Mo_begin_106 rfl 0 rfl ?_
  refine gf_Mo_40 (pc := 107) (v := .ref ((q 11))) hX 0 rfl rfl d_Mo_begin_107 ?_
  refine g_iload_n (pc := 110) hX d_Mo_begin_110 rfl 2 rfl ?_
  refine g_iload_n (pc := 111) hX d_Mo_begin_111 rfl 1 rfl ?_
  refine g_iast (pc := 112) (f := (x.2 10)) (w' := (zwM c q ((x.1, (va_up x.2 10 (upd ((x.2 10)) l3.toNatClampNeg l2)))))) hX 11 rfl h (sa_Mo_11 c q x (upd ((x.2 10)) l3.toNatClampNeg l2)) d_Mo_begin_112 (fun h => ?_)
  refine g_iinc (pc := 113) (q := 1) (L' := [(2, .int ((l2 + (1 : Int32)))), (0, .ref ((q 0))), (3, .int l3)]) hX d_Mo_begin_113 rfl zc_1 rfl rfl ?_
  refine g_goto (pc := 116) (tgt := 39) hX d_Mo_begin_116 (by decide) ?_
  refine g_ls (L' := [(0, .ref ((q 0))), (2, .int ((l2 + (1 : Int32))))]) [1, 0] rfl ?_
  exact hk_39 _ _ h
def k_Mo_begin_66 (l1 : Int32) (kf_39 : Int32 → zsM → Option (Int32 × zsM)) : Nat → Int32 → Int32 → zsM → Option (Int32 × zsM)
  | 0, _, _, _ => none
  | fu + 1, l2, l3, x => (if 0 < l3 then (if zOut ((l3 - (1 : Int32))) 8 then none else (k_Mo_isAhead x l2 ((((x.2 10)) ((l3 - (1 : Int32))).toNatClampNeg))).bind fun o9 => (if o9 = 0 then k_Mo_begin_106 l1 kf_39 l2 l3 x else (if zOut ((l3 - (1 : Int32))) 8 then none else (if zOut l3 8 then none else k_Mo_begin_66 l1 kf_39 fu l2 ((l3 + (-1 : Int32))) ((x.1, (va_up x.2 10 (upd ((x.2 10)) l3.toNatClampNeg ((((x.2 10)) ((l3 - (1 : Int32))).toNatClampNeg)))))))))) else k_Mo_begin_106 l1 kf_39 l2 l3 x)
set_option maxRecDepth 20000 in
theorem w_Mo_begin_66 {X : zX} {c : zY} {q : Nat → Nat} {l1 : Int32} {out : Int32 × zsM} {kf_39 : Int32 → zsM → Option (Int32 × zsM)} (hX : Ok X zr_Mo zb_Mo_begin 4 4 c) (hR : Rt X (some .int) (some (.int out.1)) (zwM c q out.2)) (hk_39 : ∀ (l2 : Int32) (x : zsM), kf_39 l2 x = some out → Go X (zwM c q x) [(0, .ref ((q 0))), (2, .int l2)] 39 []) : ∀ (fu : Nat) (l2 : Int32) (l3 : Int32) (x : zsM), k_Mo_begin_66 l1 kf_39 fu l2 l3 x = some out → Go X (zwM c q x) [(0, .ref ((q 0))), (2, .int l2), (3, .int l3)] 66 [] := by
  intro fu
  induction fu with
  | zero => intro l2 l3 x h; rw [k_Mo_begin_66] at h; cases h
  | succ fu ih =>
    intro l2 l3 x h
    rw [k_Mo_begin_66] at h
    refine g_iload_n (pc := 66) hX d_Mo_begin_66 rfl 2 rfl ?_
    refine g_if_le (pc := 67) (tgt := 106) hX d_Mo_begin_67 (by decide) h (fun c8 h => ?_) (fun c8 h => ?_)
    · exact w_Mo_begin_106 hX hR hk_39 _ _ _ h
    · refine g_aload_n (pc := 70) hX d_Mo_begin_70 rfl 0 rfl ?_
      refine g_iload_n (pc := 71) hX d_Mo_begin_71 rfl 1 rfl ?_
      refine g_aload_n (pc := 72) hX d_Mo_begin_72 rfl 0 rfl ?_
      refine gf_Mo_40 (pc := 73) (v := .ref ((q 11))) hX 0 rfl rfl d_Mo_begin_73 ?_
      refine g_iload_n (pc := 76) hX d_Mo_begin_76 rfl 2 rfl ?_
      refine g_iconst (pc := 77) hX d_Mo_begin_77 zc_1 ?_
      refine g_isub (pc := 78) hX d_Mo_begin_78 ?_
      refine g_iald (pc := 79) (f := (x.2 10)) hX 11 rfl h d_Mo_begin_79 (fun h => ?_)
      obtain ⟨o9, e9, h⟩ := zbind h
      refine g_cvI (pc := 80) (w1 := []) (w2 := []) (st := []) (w' := (zwM c q x)) hX zk_Mo_isAhead zs_Mo_isAhead zL_Mo_187 (c_Mo_isAhead c q x l2 ((((x.2 10)) ((l3 - (1 : Int32))).toNatClampNeg)) e9) rfl rfl rfl rfl (zself _) (zself _).symm 0 10 rfl rfl rfl d_Mo_begin_80 ?_
      refine g_if_eq (pc := 83) (tgt := 106) hX d_Mo_begin_83 (by decide) h (fun c10 h => ?_) (fun c10 h => ?_)
      · exact w_Mo_begin_106 hX hR hk_39 _ _ _ h
      · refine g_aload_n (pc := 86) hX d_Mo_begin_86 rfl 0 rfl ?_
        refine gf_Mo_40 (pc := 87) (v := .ref ((q 11))) hX 0 rfl rfl d_Mo_begin_87 ?_
        refine g_iload_n (pc := 90) hX d_Mo_begin_90 rfl 2 rfl ?_
        refine g_aload_n (pc := 91) hX d_Mo_begin_91 rfl 0 rfl ?_
        refine gf_Mo_40 (pc := 92) (v := .ref ((q 11))) hX 0 rfl rfl d_Mo_begin_92 ?_
        refine g_iload_n (pc := 95) hX d_Mo_begin_95 rfl 2 rfl ?_
        refine g_iconst (pc := 96) hX d_Mo_begin_96 zc_1 ?_
        refine g_isub (pc := 97) hX d_Mo_begin_97 ?_
        refine g_iald (pc := 98) (f := (x.2 10)) hX 11 rfl h d_Mo_begin_98 (fun h => ?_)
        refine g_iast (pc := 99) (f := (x.2 10)) (w' := (zwM c q ((x.1, (va_up x.2 10 (upd ((x.2 10)) l3.toNatClampNeg ((((x.2 10)) ((l3 - (1 : Int32))).toNatClampNeg)))))))) hX 11 rfl h (sa_Mo_11 c q x (upd ((x.2 10)) l3.toNatClampNeg ((((x.2 10)) ((l3 - (1 : Int32))).toNatClampNeg)))) d_Mo_begin_99 (fun h => ?_)
        refine g_iinc (pc := 100) (q := 2) (L' := [(3, .int ((l3 + (-1 : Int32)))), (0, .ref ((q 0))), (2, .int l2)]) hX d_Mo_begin_100 rfl zc_m1 rfl rfl ?_
        refine g_goto (pc := 103) (tgt := 66) hX d_Mo_begin_103 (by decide) ?_
        refine g_ls (L' := [(0, .ref ((q 0))), (2, .int l2), (3, .int ((l3 + (-1 : Int32))))]) [1, 2, 0] rfl ?_
        exact ih _ _ _ h
def k_Mo_begin_39 (l1 : Int32) : Nat → Int32 → zsM → Option (Int32 × zsM)
  | 0, _, _ => none
  | fu + 1, l2, x => (if l2 < (x.1 11) then (if zOut l2 8 then none else (k_Mo_draws x).bind fun o7 => (if zOut l2 8 then none else k_Mo_begin_66 l1 (k_Mo_begin_39 l1 fu) zFu l2 l2 ((o7.2.1, (va_up o7.2.2 7 (upd ((o7.2.2 7)) l2.toNatClampNeg (((((x.2 5)) l2.toNatClampNeg) + o7.1)))))))) else (k_Mo_beginsTurn (((upd ((upd ((upd ((upd ((upd x.1 21 ((x.1 11)))) 19 ((1 : Int32)))) 20 ((0 : Int32)))) 22 ((1 : Int32)))) 26 (((((upd ((upd ((upd x.1 21 ((x.1 11)))) 19 ((1 : Int32)))) 20 ((0 : Int32))))) 26 + (1 : Int32)))), x.2))).bind fun o5 => (k_Mo_current o5).bind fun o6 => some (o6, o5))
set_option maxRecDepth 20000 in
theorem w_Mo_begin_39 {X : zX} {c : zY} {q : Nat → Nat} {l1 : Int32} {out : Int32 × zsM} (hX : Ok X zr_Mo zb_Mo_begin 4 4 c) (hR : Rt X (some .int) (some (.int out.1)) (zwM c q out.2)) : ∀ (fu : Nat) (l2 : Int32) (x : zsM), k_Mo_begin_39 l1 fu l2 x = some out → Go X (zwM c q x) [(0, .ref ((q 0))), (2, .int l2)] 39 [] := by
  intro fu
  induction fu with
  | zero => intro l2 x h; rw [k_Mo_begin_39] at h; cases h
  | succ fu ih =>
    intro l2 x h
    rw [k_Mo_begin_39] at h
    refine g_iload_n (pc := 39) hX d_Mo_begin_39 rfl 1 rfl ?_
    refine g_aload_n (pc := 40) hX d_Mo_begin_40 rfl 0 rfl ?_
    refine gf_Mo_81 (pc := 41) (v := .int ((x.1 11))) hX 0 rfl rfl d_Mo_begin_41 ?_
    refine g_icmp_ge (pc := 44) (tgt := 119) hX d_Mo_begin_44 (by decide) h (fun c4 h => ?_) (fun c4 h => ?_)
    · refine g_aload_n (pc := 119) hX d_Mo_begin_119 rfl 0 rfl ?_
      refine g_aload_n (pc := 120) hX d_Mo_begin_120 rfl 0 rfl ?_
      refine gf_Mo_81 (pc := 121) (v := .int ((x.1 11))) hX 0 rfl rfl d_Mo_begin_121 ?_
      refine pf_Mo_133 (pc := 124) (w2 := (zwM c q (((upd x.1 21 ((x.1 11))), x.2)))) hX 0 rfl rfl (su_Mo_0_21 c q x ((x.1 11))) d_Mo_begin_124 ?_
      refine g_aload_n (pc := 127) hX d_Mo_begin_127 rfl 0 rfl ?_
      refine g_iconst (pc := 128) hX d_Mo_begin_128 zc_1 ?_
      refine pf_Mo_181 (pc := 129) (w2 := (zwM c q (((upd ((upd x.1 21 ((x.1 11)))) 19 ((1 : Int32))), x.2)))) hX 0 rfl rfl (su_Mo_0_19 c q (((upd x.1 21 ((x.1 11))), x.2)) ((1 : Int32))) d_Mo_begin_129 ?_
      refine g_aload_n (pc := 132) hX d_Mo_begin_132 rfl 0 rfl ?_
      refine g_iconst (pc := 133) hX d_Mo_begin_133 zc_0 ?_
      refine pf_Mo_126 (pc := 134) (w2 := (zwM c q (((upd ((upd ((upd x.1 21 ((x.1 11)))) 19 ((1 : Int32)))) 20 ((0 : Int32))), x.2)))) hX 0 rfl rfl (su_Mo_0_20 c q (((upd ((upd x.1 21 ((x.1 11)))) 19 ((1 : Int32))), x.2)) ((0 : Int32))) d_Mo_begin_134 ?_
      refine g_aload_n (pc := 137) hX d_Mo_begin_137 rfl 0 rfl ?_
      refine g_iconst (pc := 138) hX d_Mo_begin_138 zc_1 ?_
      refine pf_Mo_149 (pc := 139) (w2 := (zwM c q (((upd ((upd ((upd ((upd x.1 21 ((x.1 11)))) 19 ((1 : Int32)))) 20 ((0 : Int32)))) 22 ((1 : Int32))), x.2)))) hX 0 rfl rfl (su_Mo_0_22 c q (((upd ((upd ((upd x.1 21 ((x.1 11)))) 19 ((1 : Int32)))) 20 ((0 : Int32))), x.2)) ((1 : Int32))) d_Mo_begin_139 ?_
      refine g_aload_n (pc := 142) hX d_Mo_begin_142 rfl 0 rfl ?_
      refine g_dup (pc := 143) hX d_Mo_begin_143 rfl ?_
      refine gf_Mo_191 (pc := 144) (v := .int ((((upd ((upd ((upd x.1 21 ((x.1 11)))) 19 ((1 : Int32)))) 20 ((0 : Int32))))) 26)) hX 0 rfl rfl d_Mo_begin_144 ?_
      refine g_iconst (pc := 147) hX d_Mo_begin_147 zc_1 ?_
      refine g_iadd (pc := 148) hX d_Mo_begin_148 ?_
      refine pf_Mo_191 (pc := 149) (w2 := (zwM c q (((upd ((upd ((upd ((upd ((upd x.1 21 ((x.1 11)))) 19 ((1 : Int32)))) 20 ((0 : Int32)))) 22 ((1 : Int32)))) 26 (((((upd ((upd ((upd x.1 21 ((x.1 11)))) 19 ((1 : Int32)))) 20 ((0 : Int32))))) 26 + (1 : Int32)))), x.2)))) hX 0 rfl rfl (su_Mo_0_26 c q (((upd ((upd ((upd ((upd x.1 21 ((x.1 11)))) 19 ((1 : Int32)))) 20 ((0 : Int32)))) 22 ((1 : Int32))), x.2)) (((((upd ((upd ((upd x.1 21 ((x.1 11)))) 19 ((1 : Int32)))) 20 ((0 : Int32))))) 26 + (1 : Int32)))) d_Mo_begin_149 ?_
      refine g_aload_n (pc := 152) hX d_Mo_begin_152 rfl 0 rfl ?_
      obtain ⟨o5, e5, h⟩ := zbind h
      refine g_cvV (pc := 153) (w1 := []) (w2 := []) (st := []) (w' := (zwM c q o5)) hX zk_Mo_beginsTurn zs_Mo_beginsTurn zL_Mo_163 (c_Mo_beginsTurn c q (((upd ((upd ((upd ((upd ((upd x.1 21 ((x.1 11)))) 19 ((1 : Int32)))) 20 ((0 : Int32)))) 22 ((1 : Int32)))) 26 (((((upd ((upd ((upd x.1 21 ((x.1 11)))) 19 ((1 : Int32)))) 20 ((0 : Int32))))) 26 + (1 : Int32)))), x.2)) e5) rfl rfl rfl rfl (zself _) (zself _).symm 0 10 rfl rfl rfl d_Mo_begin_153 ?_
      refine g_aload_n (pc := 156) hX d_Mo_begin_156 rfl 0 rfl ?_
      obtain ⟨o6, e6, h⟩ := zbind h
      refine g_cvI (pc := 157) (w1 := []) (w2 := []) (st := []) (w' := (zwM c q o5)) hX zk_Mo_current zs_Mo_current zL_Mo_136 (c_Mo_current c q o5 e6) rfl rfl rfl rfl (zself _) (zself _).symm 0 10 rfl rfl rfl d_Mo_begin_157 ?_
      obtain rfl := Option.some.inj h
      exact g_iret (pc := 160) hX hR d_Mo_begin_160
    · refine g_aload_n (pc := 47) hX d_Mo_begin_47 rfl 0 rfl ?_
      refine gf_Mo_31 (pc := 48) (v := .ref ((q 8))) hX 0 rfl rfl d_Mo_begin_48 ?_
      refine g_iload_n (pc := 51) hX d_Mo_begin_51 rfl 1 rfl ?_
      refine g_aload_n (pc := 52) hX d_Mo_begin_52 rfl 0 rfl ?_
      refine gf_Mo_25 (pc := 53) (v := .ref ((q 6))) hX 0 rfl rfl d_Mo_begin_53 ?_
      refine g_iload_n (pc := 56) hX d_Mo_begin_56 rfl 1 rfl ?_
      refine g_iald (pc := 57) (f := (x.2 5)) hX 6 rfl h d_Mo_begin_57 (fun h => ?_)
      refine g_aload_n (pc := 58) hX d_Mo_begin_58 rfl 0 rfl ?_
      obtain ⟨o7, e7, h⟩ := zbind h
      refine g_cvI (pc := 59) (w1 := []) (w2 := []) (st := [.int ((((x.2 5)) l2.toNatClampNeg)), .int l2, .ref ((q 8))]) (w' := (zwM c q o7.2)) hX zk_Mo_draws zs_Mo_draws zL_Mo_184 (c_Mo_draws c q x e7) rfl rfl rfl rfl (zself _) (zself _).symm 0 10 rfl rfl rfl d_Mo_begin_59 ?_
      refine g_iadd (pc := 62) hX d_Mo_begin_62 ?_
      refine g_iast (pc := 63) (f := (o7.2.2 7)) (w' := (zwM c q ((o7.2.1, (va_up o7.2.2 7 (upd ((o7.2.2 7)) l2.toNatClampNeg (((((x.2 5)) l2.toNatClampNeg) + o7.1)))))))) hX 8 rfl h (sa_Mo_8 c q o7.2 (upd ((o7.2.2 7)) l2.toNatClampNeg (((((x.2 5)) l2.toNatClampNeg) + o7.1)))) d_Mo_begin_63 (fun h => ?_)
      refine g_iload_n (pc := 64) hX d_Mo_begin_64 rfl 1 rfl ?_
      refine g_istore_n (pc := 65) (L' := [(3, .int l2), (0, .ref ((q 0))), (2, .int l2)]) hX d_Mo_begin_65 rfl rfl rfl ?_
      refine g_ls (L' := [(0, .ref ((q 0))), (2, .int l2), (3, .int l2)]) [1, 2, 0] rfl ?_
      exact w_Mo_begin_66 hX hR ih _ _ _ _ h
def k_Mo_begin (x : zsM) (l1 : Int32) : Option (Int32 × zsM) := (if (x.1 19) = (1 : Int32) then (k_Mo_refuses x ((2 : Int32))).bind fun o12 => some (o12.1, o12.2) else (if (x.1 11) = 0 then (k_Mo_refuses x ((10 : Int32))).bind fun o11 => some (o11.1, o11.2) else (k_Mo_remembers x).bind fun o3 => k_Mo_begin_39 l1 zFu ((0 : Int32)) (((upd o3.1 25 l1), o3.2))))
set_option maxRecDepth 20000 in
theorem c_Mo_begin (c : zY) (q : Nat → Nat) (x : zsM) (l1 : Int32) {out : Int32 × zsM} (h : k_Mo_begin x l1 = some out) : KM zy_Mo_begin zb_Mo_begin 4 (some .int) 4 c [.ref ((q 0)), .int l1] (zwM c q x) (zwM c q out.2) (some (.int out.1)) := zK_of zp_Mo rfl (Nat.le_of_ble_eq_true rfl) (zq_Mo c q _ _) (fun X hX hR => by
  show Go X (zwM c q x) [(0, .ref ((q 0))), (1, .int l1)] 0 []
  rw [k_Mo_begin] at h
  refine g_aload_n (pc := 0) hX d_Mo_begin_0 rfl 0 rfl ?_
  refine gf_Mo_181 (pc := 1) (v := .int ((x.1 19))) hX 0 rfl rfl d_Mo_begin_1 ?_
  refine g_iconst (pc := 4) hX d_Mo_begin_4 zc_1 ?_
  refine g_icmp_ne (pc := 5) (tgt := 14) hX d_Mo_begin_5 (by decide) h (fun c1 h => ?_) (fun c1 h => ?_)
  · refine g_aload_n (pc := 14) hX d_Mo_begin_14 rfl 0 rfl ?_
    refine gf_Mo_81 (pc := 15) (v := .int ((x.1 11))) hX 0 rfl rfl d_Mo_begin_15 ?_
    refine g_if_ne (pc := 18) (tgt := 28) hX d_Mo_begin_18 (by decide) h (fun c2 h => ?_) (fun c2 h => ?_)
    · refine g_aload_n (pc := 28) hX d_Mo_begin_28 rfl 0 rfl ?_
      obtain ⟨o3, e3, h⟩ := zbind h
      refine g_cvV (pc := 29) (w1 := []) (w2 := []) (st := []) (w' := (zwM c q o3)) hX zk_Mo_remembers zs_Mo_remembers zL_Mo_175 (c_Mo_remembers c q x e3) rfl rfl rfl rfl (zself _) (zself _).symm 0 10 rfl rfl rfl d_Mo_begin_29 ?_
      refine g_aload_n (pc := 32) hX d_Mo_begin_32 rfl 0 rfl ?_
      refine g_iload_n (pc := 33) hX d_Mo_begin_33 rfl 1 rfl ?_
      refine pf_Mo_129 (pc := 34) (w2 := (zwM c q (((upd o3.1 25 l1), o3.2)))) hX 0 rfl rfl (su_Mo_0_25 c q o3 l1) d_Mo_begin_34 ?_
      refine g_iconst (pc := 37) hX d_Mo_begin_37 zc_0 ?_
      refine g_istore_n (pc := 38) (L' := [(2, .int ((0 : Int32))), (0, .ref ((q 0))), (1, .int l1)]) hX d_Mo_begin_38 rfl rfl rfl ?_
      refine g_ls (L' := [(0, .ref ((q 0))), (2, .int ((0 : Int32)))]) [1, 0] rfl ?_
      exact w_Mo_begin_39 hX hR _ _ _ h
    · refine g_aload_n (pc := 21) hX d_Mo_begin_21 rfl 0 rfl ?_
      refine g_bipush (pc := 22) hX d_Mo_begin_22 ze_10 ?_
      obtain ⟨o11, e11, h⟩ := zbind h
      refine g_cvI (pc := 24) (w1 := []) (w2 := []) (st := []) (w' := (zwM c q o11.2)) hX zk_Mo_refuses zs_Mo_refuses zL_Mo_172 (c_Mo_refuses c q x ((10 : Int32)) e11) rfl rfl rfl rfl (zself _) (zself _).symm 0 10 rfl rfl rfl d_Mo_begin_24 ?_
      obtain rfl := Option.some.inj h
      exact g_iret (pc := 27) hX hR d_Mo_begin_27
  · refine g_aload_n (pc := 8) hX d_Mo_begin_8 rfl 0 rfl ?_
    refine g_iconst (pc := 9) hX d_Mo_begin_9 zc_2 ?_
    obtain ⟨o12, e12, h⟩ := zbind h
    refine g_cvI (pc := 10) (w1 := []) (w2 := []) (st := []) (w' := (zwM c q o12.2)) hX zk_Mo_refuses zs_Mo_refuses zL_Mo_172 (c_Mo_refuses c q x ((2 : Int32)) e12) rfl rfl rfl rfl (zself _) (zself _).symm 0 10 rfl rfl rfl d_Mo_begin_10 ?_
    obtain rfl := Option.some.inj h
    exact g_iret (pc := 13) hX hR d_Mo_begin_13)
theorem d_Mo_finish_0 : decode zb_Mo_finish 0 = .ok (.aload_n 0, 1) := by decide +kernel
theorem d_Mo_finish_1 : decode zb_Mo_finish 1 = .ok (.getfield 181, 3) := by decide +kernel
theorem d_Mo_finish_4 : decode zb_Mo_finish 4 = .ok (.ifCond .ne 9, 3) := by decide +kernel
theorem d_Mo_finish_7 : decode zb_Mo_finish 7 = .ok (.aload_n 0, 1) := by decide +kernel
theorem d_Mo_finish_8 : decode zb_Mo_finish 8 = .ok (.iconst 1, 1) := by decide +kernel
theorem d_Mo_finish_9 : decode zb_Mo_finish 9 = .ok (.invokevirtual 172, 3) := by decide +kernel
theorem d_Mo_finish_12 : decode zb_Mo_finish 12 = .ok (.ireturn, 1) := by decide +kernel
theorem d_Mo_finish_13 : decode zb_Mo_finish 13 = .ok (.aload_n 0, 1) := by decide +kernel
theorem d_Mo_finish_14 : decode zb_Mo_finish 14 = .ok (.invokevirtual 175, 3) := by decide +kernel
theorem d_Mo_finish_17 : decode zb_Mo_finish 17 = .ok (.aload_n 0, 1) := by decide +kernel
theorem d_Mo_finish_18 : decode zb_Mo_finish 18 = .ok (.getfield 149, 3) := by decide +kernel
theorem d_Mo_finish_21 : decode zb_Mo_finish 21 = .ok (.istore_n 1, 1) := by decide +kernel
theorem d_Mo_finish_22 : decode zb_Mo_finish 22 = .ok (.iconst 0, 1) := by decide +kernel
theorem d_Mo_finish_23 : decode zb_Mo_finish 23 = .ok (.istore_n 2, 1) := by decide +kernel
theorem d_Mo_finish_24 : decode zb_Mo_finish 24 = .ok (.iload_n 2, 1) := by decide +kernel
theorem d_Mo_finish_25 : decode zb_Mo_finish 25 = .ok (.aload_n 0, 1) := by decide +kernel
theorem d_Mo_finish_26 : decode zb_Mo_finish 26 = .ok (.getfield 95, 3) := by decide +kernel
theorem d_Mo_finish_29 : decode zb_Mo_finish 29 = .ok (.if_icmp .ge 25, 3) := by decide +kernel
theorem d_Mo_finish_32 : decode zb_Mo_finish 32 = .ok (.aload_n 0, 1) := by decide +kernel
theorem d_Mo_finish_33 : decode zb_Mo_finish 33 = .ok (.iload_n 2, 1) := by decide +kernel
theorem d_Mo_finish_34 : decode zb_Mo_finish 34 = .ok (.iconst 4, 1) := by decide +kernel
theorem d_Mo_finish_35 : decode zb_Mo_finish 35 = .ok (.invokevirtual 98, 3) := by decide +kernel
theorem d_Mo_finish_38 : decode zb_Mo_finish 38 = .ok (.iconst 2, 1) := by decide +kernel
theorem d_Mo_finish_39 : decode zb_Mo_finish 39 = .ok (.if_icmp .ge 9, 3) := by decide +kernel
theorem d_Mo_finish_42 : decode zb_Mo_finish 42 = .ok (.aload_n 0, 1) := by decide +kernel
theorem d_Mo_finish_43 : decode zb_Mo_finish 43 = .ok (.iload_n 2, 1) := by decide +kernel
theorem d_Mo_finish_44 : decode zb_Mo_finish 44 = .ok (.invokevirtual 117, 3) := by decide +kernel
theorem d_Mo_finish_47 : decode zb_Mo_finish 47 = .ok (.istore_n 2, 1) := by decide +kernel
theorem d_Mo_finish_48 : decode zb_Mo_finish 48 = .ok (.iinc 2 1, 3) := by decide +kernel
theorem d_Mo_finish_51 : decode zb_Mo_finish 51 = .ok (.goto (-27), 3) := by decide +kernel
theorem d_Mo_finish_54 : decode zb_Mo_finish 54 = .ok (.aload_n 0, 1) := by decide +kernel
theorem d_Mo_finish_55 : decode zb_Mo_finish 55 = .ok (.iconst 0, 1) := by decide +kernel
theorem d_Mo_finish_56 : decode zb_Mo_finish 56 = .ok (.putfield 181, 3) := by decide +kernel
theorem d_Mo_finish_59 : decode zb_Mo_finish 59 = .ok (.aload_n 0, 1) := by decide +kernel
theorem d_Mo_finish_60 : decode zb_Mo_finish 60 = .ok (.iconst 0, 1) := by decide +kernel
theorem d_Mo_finish_61 : decode zb_Mo_finish 61 = .ok (.putfield 126, 3) := by decide +kernel
theorem d_Mo_finish_64 : decode zb_Mo_finish 64 = .ok (.aload_n 0, 1) := by decide +kernel
theorem d_Mo_finish_65 : decode zb_Mo_finish 65 = .ok (.iconst 0, 1) := by decide +kernel
theorem d_Mo_finish_66 : decode zb_Mo_finish 66 = .ok (.putfield 133, 3) := by decide +kernel
theorem d_Mo_finish_69 : decode zb_Mo_finish 69 = .ok (.aload_n 0, 1) := by decide +kernel
theorem d_Mo_finish_70 : decode zb_Mo_finish 70 = .ok (.iconst 0, 1) := by decide +kernel
theorem d_Mo_finish_71 : decode zb_Mo_finish 71 = .ok (.putfield 149, 3) := by decide +kernel
theorem d_Mo_finish_74 : decode zb_Mo_finish 74 = .ok (.aload_n 0, 1) := by decide +kernel
theorem d_Mo_finish_75 : decode zb_Mo_finish 75 = .ok (.iconst 0, 1) := by decide +kernel
theorem d_Mo_finish_76 : decode zb_Mo_finish 76 = .ok (.putfield 140, 3) := by decide +kernel
theorem d_Mo_finish_79 : decode zb_Mo_finish 79 = .ok (.aload_n 0, 1) := by decide +kernel
theorem d_Mo_finish_80 : decode zb_Mo_finish 80 = .ok (.iconst 0, 1) := by decide +kernel
theorem d_Mo_finish_81 : decode zb_Mo_finish 81 = .ok (.putfield 143, 3) := by decide +kernel
theorem d_Mo_finish_84 : decode zb_Mo_finish 84 = .ok (.iconst 0, 1) := by decide +kernel
theorem d_Mo_finish_85 : decode zb_Mo_finish 85 = .ok (.istore_n 2, 1) := by decide +kernel
theorem d_Mo_finish_86 : decode zb_Mo_finish 86 = .ok (.iload_n 2, 1) := by decide +kernel
theorem d_Mo_finish_87 : decode zb_Mo_finish 87 = .ok (.aload_n 0, 1) := by decide +kernel
theorem d_Mo_finish_88 : decode zb_Mo_finish 88 = .ok (.getfield 81, 3) := by decide +kernel
theorem d_Mo_finish_91 : decode zb_Mo_finish 91 = .ok (.if_icmp .ge 17, 3) := by decide +kernel
theorem d_Mo_finish_94 : decode zb_Mo_finish 94 = .ok (.aload_n 0, 1) := by decide +kernel
theorem d_Mo_finish_95 : decode zb_Mo_finish 95 = .ok (.getfield 31, 3) := by decide +kernel
theorem d_Mo_finish_98 : decode zb_Mo_finish 98 = .ok (.iload_n 2, 1) := by decide +kernel
theorem d_Mo_finish_99 : decode zb_Mo_finish 99 = .ok (.bipush (-5), 2) := by decide +kernel
theorem d_Mo_finish_101 : decode zb_Mo_finish 101 = .ok (.iastore, 1) := by decide +kernel
theorem d_Mo_finish_102 : decode zb_Mo_finish 102 = .ok (.iinc 2 1, 3) := by decide +kernel
theorem d_Mo_finish_105 : decode zb_Mo_finish 105 = .ok (.goto (-19), 3) := by decide +kernel
theorem d_Mo_finish_108 : decode zb_Mo_finish 108 = .ok (.iload_n 1, 1) := by decide +kernel
theorem d_Mo_finish_109 : decode zb_Mo_finish 109 = .ok (.ireturn, 1) := by decide +kernel
def k_Mo_finish_86 : Nat → Int32 → Int32 → zsM → Option (Int32 × zsM)
  | 0, _, _, _ => none
  | fu + 1, l1, l2, x => (if l2 < (x.1 11) then (if zOut l2 8 then none else k_Mo_finish_86 fu l1 ((l2 + (1 : Int32))) ((x.1, (va_up x.2 7 (upd ((x.2 7)) l2.toNatClampNeg ((-5 : Int32))))))) else some (l1, x))
set_option maxRecDepth 20000 in
theorem w_Mo_finish_86 {X : zX} {c : zY} {q : Nat → Nat} {out : Int32 × zsM} (hX : Ok X zr_Mo zb_Mo_finish 3 4 c) (hR : Rt X (some .int) (some (.int out.1)) (zwM c q out.2)) : ∀ (fu : Nat) (l1 : Int32) (l2 : Int32) (x : zsM), k_Mo_finish_86 fu l1 l2 x = some out → Go X (zwM c q x) [(0, .ref ((q 0))), (1, .int l1), (2, .int l2)] 86 [] := by
  intro fu
  induction fu with
  | zero => intro l1 l2 x h; rw [k_Mo_finish_86] at h; cases h
  | succ fu ih =>
    intro l1 l2 x h
    rw [k_Mo_finish_86] at h
    refine g_iload_n (pc := 86) hX d_Mo_finish_86 rfl 2 rfl ?_
    refine g_aload_n (pc := 87) hX d_Mo_finish_87 rfl 0 rfl ?_
    refine gf_Mo_81 (pc := 88) (v := .int ((x.1 11))) hX 0 rfl rfl d_Mo_finish_88 ?_
    refine g_icmp_ge (pc := 91) (tgt := 108) hX d_Mo_finish_91 (by decide) h (fun c4 h => ?_) (fun c4 h => ?_)
    · refine g_iload_n (pc := 108) hX d_Mo_finish_108 rfl 1 rfl ?_
      obtain rfl := Option.some.inj h
      exact g_iret (pc := 109) hX hR d_Mo_finish_109
    · refine g_aload_n (pc := 94) hX d_Mo_finish_94 rfl 0 rfl ?_
      refine gf_Mo_31 (pc := 95) (v := .ref ((q 8))) hX 0 rfl rfl d_Mo_finish_95 ?_
      refine g_iload_n (pc := 98) hX d_Mo_finish_98 rfl 2 rfl ?_
      refine g_bipush (pc := 99) hX d_Mo_finish_99 ze_m5 ?_
      refine g_iast (pc := 101) (f := (x.2 7)) (w' := (zwM c q ((x.1, (va_up x.2 7 (upd ((x.2 7)) l2.toNatClampNeg ((-5 : Int32)))))))) hX 8 rfl h (sa_Mo_8 c q x (upd ((x.2 7)) l2.toNatClampNeg ((-5 : Int32)))) d_Mo_finish_101 (fun h => ?_)
      refine g_iinc (pc := 102) (q := 2) (L' := [(2, .int ((l2 + (1 : Int32)))), (0, .ref ((q 0))), (1, .int l1)]) hX d_Mo_finish_102 rfl zc_1 rfl rfl ?_
      refine g_goto (pc := 105) (tgt := 86) hX d_Mo_finish_105 (by decide) ?_
      refine g_ls (L' := [(0, .ref ((q 0))), (1, .int l1), (2, .int ((l2 + (1 : Int32))))]) [1, 2, 0] rfl ?_
      exact ih _ _ _ h
def k_Mo_finish_24 : Nat → Int32 → Int32 → zsM → Option (Int32 × zsM)
  | 0, _, _, _ => none
  | fu + 1, l1, l2, x => (if l2 < (x.1 16) then (k_Mo_partOf x l2 ((4 : Int32))).bind fun o5 => (if o5 < (2 : Int32) then (k_Mo_endsAt x l2).bind fun o7 => k_Mo_finish_24 fu l1 ((o7.1 + (1 : Int32))) o7.2 else k_Mo_finish_24 fu l1 ((l2 + (1 : Int32))) x) else k_Mo_finish_86 zFu l1 ((0 : Int32)) (((upd ((upd ((upd ((upd ((upd ((upd x.1 19 ((0 : Int32)))) 20 ((0 : Int32)))) 21 ((0 : Int32)))) 22 ((0 : Int32)))) 23 ((0 : Int32)))) 24 ((0 : Int32))), x.2)))
set_option maxRecDepth 20000 in
theorem w_Mo_finish_24 {X : zX} {c : zY} {q : Nat → Nat} {out : Int32 × zsM} (hX : Ok X zr_Mo zb_Mo_finish 3 4 c) (hR : Rt X (some .int) (some (.int out.1)) (zwM c q out.2)) : ∀ (fu : Nat) (l1 : Int32) (l2 : Int32) (x : zsM), k_Mo_finish_24 fu l1 l2 x = some out → Go X (zwM c q x) [(0, .ref ((q 0))), (1, .int l1), (2, .int l2)] 24 [] := by
  intro fu
  induction fu with
  | zero => intro l1 l2 x h; rw [k_Mo_finish_24] at h; cases h
  | succ fu ih =>
    intro l1 l2 x h
    rw [k_Mo_finish_24] at h
    refine g_iload_n (pc := 24) hX d_Mo_finish_24 rfl 2 rfl ?_
    refine g_aload_n (pc := 25) hX d_Mo_finish_25 rfl 0 rfl ?_
    refine gf_Mo_95 (pc := 26) (v := .int ((x.1 16))) hX 0 rfl rfl d_Mo_finish_26 ?_
    refine g_icmp_ge (pc := 29) (tgt := 54) hX d_Mo_finish_29 (by decide) h (fun c3 h => ?_) (fun c3 h => ?_)
    · refine g_aload_n (pc := 54) hX d_Mo_finish_54 rfl 0 rfl ?_
      refine g_iconst (pc := 55) hX d_Mo_finish_55 zc_0 ?_
      refine pf_Mo_181 (pc := 56) (w2 := (zwM c q (((upd x.1 19 ((0 : Int32))), x.2)))) hX 0 rfl rfl (su_Mo_0_19 c q x ((0 : Int32))) d_Mo_finish_56 ?_
      refine g_aload_n (pc := 59) hX d_Mo_finish_59 rfl 0 rfl ?_
      refine g_iconst (pc := 60) hX d_Mo_finish_60 zc_0 ?_
      refine pf_Mo_126 (pc := 61) (w2 := (zwM c q (((upd ((upd x.1 19 ((0 : Int32)))) 20 ((0 : Int32))), x.2)))) hX 0 rfl rfl (su_Mo_0_20 c q (((upd x.1 19 ((0 : Int32))), x.2)) ((0 : Int32))) d_Mo_finish_61 ?_
      refine g_aload_n (pc := 64) hX d_Mo_finish_64 rfl 0 rfl ?_
      refine g_iconst (pc := 65) hX d_Mo_finish_65 zc_0 ?_
      refine pf_Mo_133 (pc := 66) (w2 := (zwM c q (((upd ((upd ((upd x.1 19 ((0 : Int32)))) 20 ((0 : Int32)))) 21 ((0 : Int32))), x.2)))) hX 0 rfl rfl (su_Mo_0_21 c q (((upd ((upd x.1 19 ((0 : Int32)))) 20 ((0 : Int32))), x.2)) ((0 : Int32))) d_Mo_finish_66 ?_
      refine g_aload_n (pc := 69) hX d_Mo_finish_69 rfl 0 rfl ?_
      refine g_iconst (pc := 70) hX d_Mo_finish_70 zc_0 ?_
      refine pf_Mo_149 (pc := 71) (w2 := (zwM c q (((upd ((upd ((upd ((upd x.1 19 ((0 : Int32)))) 20 ((0 : Int32)))) 21 ((0 : Int32)))) 22 ((0 : Int32))), x.2)))) hX 0 rfl rfl (su_Mo_0_22 c q (((upd ((upd ((upd x.1 19 ((0 : Int32)))) 20 ((0 : Int32)))) 21 ((0 : Int32))), x.2)) ((0 : Int32))) d_Mo_finish_71 ?_
      refine g_aload_n (pc := 74) hX d_Mo_finish_74 rfl 0 rfl ?_
      refine g_iconst (pc := 75) hX d_Mo_finish_75 zc_0 ?_
      refine pf_Mo_140 (pc := 76) (w2 := (zwM c q (((upd ((upd ((upd ((upd ((upd x.1 19 ((0 : Int32)))) 20 ((0 : Int32)))) 21 ((0 : Int32)))) 22 ((0 : Int32)))) 23 ((0 : Int32))), x.2)))) hX 0 rfl rfl (su_Mo_0_23 c q (((upd ((upd ((upd ((upd x.1 19 ((0 : Int32)))) 20 ((0 : Int32)))) 21 ((0 : Int32)))) 22 ((0 : Int32))), x.2)) ((0 : Int32))) d_Mo_finish_76 ?_
      refine g_aload_n (pc := 79) hX d_Mo_finish_79 rfl 0 rfl ?_
      refine g_iconst (pc := 80) hX d_Mo_finish_80 zc_0 ?_
      refine pf_Mo_143 (pc := 81) (w2 := (zwM c q (((upd ((upd ((upd ((upd ((upd ((upd x.1 19 ((0 : Int32)))) 20 ((0 : Int32)))) 21 ((0 : Int32)))) 22 ((0 : Int32)))) 23 ((0 : Int32)))) 24 ((0 : Int32))), x.2)))) hX 0 rfl rfl (su_Mo_0_24 c q (((upd ((upd ((upd ((upd ((upd x.1 19 ((0 : Int32)))) 20 ((0 : Int32)))) 21 ((0 : Int32)))) 22 ((0 : Int32)))) 23 ((0 : Int32))), x.2)) ((0 : Int32))) d_Mo_finish_81 ?_
      refine g_iconst (pc := 84) hX d_Mo_finish_84 zc_0 ?_
      refine g_istore_n (pc := 85) (L' := [(2, .int ((0 : Int32))), (0, .ref ((q 0))), (1, .int l1)]) hX d_Mo_finish_85 rfl rfl rfl ?_
      refine g_ls (L' := [(0, .ref ((q 0))), (1, .int l1), (2, .int ((0 : Int32)))]) [1, 2, 0] rfl ?_
      exact w_Mo_finish_86 hX hR _ _ _ _ h
    · refine g_aload_n (pc := 32) hX d_Mo_finish_32 rfl 0 rfl ?_
      refine g_iload_n (pc := 33) hX d_Mo_finish_33 rfl 2 rfl ?_
      refine g_iconst (pc := 34) hX d_Mo_finish_34 zc_4 ?_
      obtain ⟨o5, e5, h⟩ := zbind h
      refine g_cvI (pc := 35) (w1 := []) (w2 := []) (st := []) (w' := (zwM c q x)) hX zk_Mo_partOf zs_Mo_partOf zL_Mo_98 (c_Mo_partOf c q x l2 ((4 : Int32)) e5) rfl rfl rfl rfl (zself _) (zself _).symm 0 10 rfl rfl rfl d_Mo_finish_35 ?_
      refine g_iconst (pc := 38) hX d_Mo_finish_38 zc_2 ?_
      refine g_icmp_ge (pc := 39) (tgt := 48) hX d_Mo_finish_39 (by decide) h (fun c6 h => ?_) (fun c6 h => ?_)
      · refine g_iinc (pc := 48) (q := 2) (L' := [(2, .int ((l2 + (1 : Int32)))), (0, .ref ((q 0))), (1, .int l1)]) hX d_Mo_finish_48 rfl zc_1 rfl rfl ?_
        refine g_goto (pc := 51) (tgt := 24) hX d_Mo_finish_51 (by decide) ?_
        refine g_ls (L' := [(0, .ref ((q 0))), (1, .int l1), (2, .int ((l2 + (1 : Int32))))]) [1, 2, 0] rfl ?_
        exact ih _ _ _ h
      · refine g_aload_n (pc := 42) hX d_Mo_finish_42 rfl 0 rfl ?_
        refine g_iload_n (pc := 43) hX d_Mo_finish_43 rfl 2 rfl ?_
        obtain ⟨o7, e7, h⟩ := zbind h
        refine g_cvI (pc := 44) (w1 := []) (w2 := []) (st := []) (w' := (zwM c q o7.2)) hX zk_Mo_endsAt zs_Mo_endsAt zL_Mo_117 (c_Mo_endsAt c q x l2 e7) rfl rfl rfl rfl (zself _) (zself _).symm 0 10 rfl rfl rfl d_Mo_finish_44 ?_
        refine g_istore_n (pc := 47) (L' := [(2, .int o7.1), (0, .ref ((q 0))), (1, .int l1)]) hX d_Mo_finish_47 rfl rfl rfl ?_
        refine g_iinc (pc := 48) (q := 0) (L' := [(2, .int ((o7.1 + (1 : Int32)))), (0, .ref ((q 0))), (1, .int l1)]) hX d_Mo_finish_48 rfl zc_1 rfl rfl ?_
        refine g_goto (pc := 51) (tgt := 24) hX d_Mo_finish_51 (by decide) ?_
        refine g_ls (L' := [(0, .ref ((q 0))), (1, .int l1), (2, .int ((o7.1 + (1 : Int32))))]) [1, 2, 0] rfl ?_
        exact ih _ _ _ h
def k_Mo_finish (x : zsM) : Option (Int32 × zsM) := (if (x.1 19) = 0 then (k_Mo_refuses x ((1 : Int32))).bind fun o8 => some (o8.1, o8.2) else (k_Mo_remembers x).bind fun o2 => k_Mo_finish_24 zFu ((o2.1 22)) ((0 : Int32)) o2)
set_option maxRecDepth 20000 in
theorem c_Mo_finish (c : zY) (q : Nat → Nat) (x : zsM) {out : Int32 × zsM} (h : k_Mo_finish x = some out) : KM zy_Mo_finish zb_Mo_finish 3 (some .int) 4 c [.ref ((q 0))] (zwM c q x) (zwM c q out.2) (some (.int out.1)) := zK_of zp_Mo rfl (Nat.le_of_ble_eq_true rfl) (zq_Mo c q _ _) (fun X hX hR => by
  show Go X (zwM c q x) [(0, .ref ((q 0)))] 0 []
  rw [k_Mo_finish] at h
  refine g_aload_n (pc := 0) hX d_Mo_finish_0 rfl 0 rfl ?_
  refine gf_Mo_181 (pc := 1) (v := .int ((x.1 19))) hX 0 rfl rfl d_Mo_finish_1 ?_
  refine g_if_ne (pc := 4) (tgt := 13) hX d_Mo_finish_4 (by decide) h (fun c1 h => ?_) (fun c1 h => ?_)
  · refine g_aload_n (pc := 13) hX d_Mo_finish_13 rfl 0 rfl ?_
    obtain ⟨o2, e2, h⟩ := zbind h
    refine g_cvV (pc := 14) (w1 := []) (w2 := []) (st := []) (w' := (zwM c q o2)) hX zk_Mo_remembers zs_Mo_remembers zL_Mo_175 (c_Mo_remembers c q x e2) rfl rfl rfl rfl (zself _) (zself _).symm 0 10 rfl rfl rfl d_Mo_finish_14 ?_
    refine g_aload_n (pc := 17) hX d_Mo_finish_17 rfl 0 rfl ?_
    refine gf_Mo_149 (pc := 18) (v := .int ((o2.1 22))) hX 0 rfl rfl d_Mo_finish_18 ?_
    refine g_istore_n (pc := 21) (L' := [(1, .int ((o2.1 22))), (0, .ref ((q 0)))]) hX d_Mo_finish_21 rfl rfl rfl ?_
    refine g_iconst (pc := 22) hX d_Mo_finish_22 zc_0 ?_
    refine g_istore_n (pc := 23) (L' := [(2, .int ((0 : Int32))), (1, .int ((o2.1 22))), (0, .ref ((q 0)))]) hX d_Mo_finish_23 rfl rfl rfl ?_
    refine g_ls (L' := [(0, .ref ((q 0))), (1, .int ((o2.1 22))), (2, .int ((0 : Int32)))]) [2, 1, 0] rfl ?_
    exact w_Mo_finish_24 hX hR _ _ _ _ h
  · refine g_aload_n (pc := 7) hX d_Mo_finish_7 rfl 0 rfl ?_
    refine g_iconst (pc := 8) hX d_Mo_finish_8 zc_1 ?_
    obtain ⟨o8, e8, h⟩ := zbind h
    refine g_cvI (pc := 9) (w1 := []) (w2 := []) (st := []) (w' := (zwM c q o8.2)) hX zk_Mo_refuses zs_Mo_refuses zL_Mo_172 (c_Mo_refuses c q x ((1 : Int32)) e8) rfl rfl rfl rfl (zself _) (zself _).symm 0 10 rfl rfl rfl d_Mo_finish_9 ?_
    obtain rfl := Option.some.inj h
    exact g_iret (pc := 12) hX hR d_Mo_finish_12)
theorem d_Mo_endTurn_0 : decode zb_Mo_endTurn 0 = .ok (.aload_n 0, 1) := by decide +kernel
theorem d_Mo_endTurn_1 : decode zb_Mo_endTurn 1 = .ok (.getfield 181, 3) := by decide +kernel
theorem d_Mo_endTurn_4 : decode zb_Mo_endTurn 4 = .ok (.ifCond .ne 9, 3) := by decide +kernel
theorem d_Mo_endTurn_7 : decode zb_Mo_endTurn 7 = .ok (.aload_n 0, 1) := by decide +kernel
theorem d_Mo_endTurn_8 : decode zb_Mo_endTurn 8 = .ok (.iconst 1, 1) := by decide +kernel
theorem d_Mo_endTurn_9 : decode zb_Mo_endTurn 9 = .ok (.invokevirtual 172, 3) := by decide +kernel
theorem d_Mo_endTurn_12 : decode zb_Mo_endTurn 12 = .ok (.ireturn, 1) := by decide +kernel
theorem d_Mo_endTurn_13 : decode zb_Mo_endTurn 13 = .ok (.aload_n 0, 1) := by decide +kernel
theorem d_Mo_endTurn_14 : decode zb_Mo_endTurn 14 = .ok (.invokevirtual 175, 3) := by decide +kernel
theorem d_Mo_endTurn_17 : decode zb_Mo_endTurn 17 = .ok (.aload_n 0, 1) := by decide +kernel
theorem d_Mo_endTurn_18 : decode zb_Mo_endTurn 18 = .ok (.invokevirtual 136, 3) := by decide +kernel
theorem d_Mo_endTurn_21 : decode zb_Mo_endTurn 21 = .ok (.istore_n 1, 1) := by decide +kernel
theorem d_Mo_endTurn_22 : decode zb_Mo_endTurn 22 = .ok (.aload_n 0, 1) := by decide +kernel
theorem d_Mo_endTurn_23 : decode zb_Mo_endTurn 23 = .ok (.bipush 9, 2) := by decide +kernel
theorem d_Mo_endTurn_25 : decode zb_Mo_endTurn 25 = .ok (.iload_n 1, 1) := by decide +kernel
theorem d_Mo_endTurn_26 : decode zb_Mo_endTurn 26 = .ok (.aload_n 0, 1) := by decide +kernel
theorem d_Mo_endTurn_27 : decode zb_Mo_endTurn 27 = .ok (.getfield 149, 3) := by decide +kernel
theorem d_Mo_endTurn_30 : decode zb_Mo_endTurn 30 = .ok (.invokevirtual 102, 3) := by decide +kernel
theorem d_Mo_endTurn_33 : decode zb_Mo_endTurn 33 = .ok (.aload_n 0, 1) := by decide +kernel
theorem d_Mo_endTurn_34 : decode zb_Mo_endTurn 34 = .ok (.iload_n 1, 1) := by decide +kernel
theorem d_Mo_endTurn_35 : decode zb_Mo_endTurn 35 = .ok (.iconst 0, 1) := by decide +kernel
theorem d_Mo_endTurn_36 : decode zb_Mo_endTurn 36 = .ok (.invokevirtual 152, 3) := by decide +kernel
theorem d_Mo_endTurn_39 : decode zb_Mo_endTurn 39 = .ok (.aload_n 0, 1) := by decide +kernel
theorem d_Mo_endTurn_40 : decode zb_Mo_endTurn 40 = .ok (.invokevirtual 194, 3) := by decide +kernel
theorem d_Mo_endTurn_43 : decode zb_Mo_endTurn 43 = .ok (.aload_n 0, 1) := by decide +kernel
theorem d_Mo_endTurn_44 : decode zb_Mo_endTurn 44 = .ok (.invokevirtual 136, 3) := by decide +kernel
theorem d_Mo_endTurn_47 : decode zb_Mo_endTurn 47 = .ok (.ireturn, 1) := by decide +kernel
def k_Mo_endTurn (x : zsM) : Option (Int32 × zsM) := (if (x.1 19) = 0 then (k_Mo_refuses x ((1 : Int32))).bind fun o8 => some (o8.1, o8.2) else (k_Mo_remembers x).bind fun o2 => (k_Mo_current o2).bind fun o3 => (k_Mo_notes o2 ((9 : Int32)) o3 ((o2.1 22))).bind fun o4 => (k_Mo_counts o4 o3 ((0 : Int32))).bind fun o5 => (k_Mo_passesTurn o5).bind fun o6 => (k_Mo_current o6).bind fun o7 => some (o7, o6))
set_option maxRecDepth 20000 in
theorem c_Mo_endTurn (c : zY) (q : Nat → Nat) (x : zsM) {out : Int32 × zsM} (h : k_Mo_endTurn x = some out) : KM zy_Mo_endTurn zb_Mo_endTurn 2 (some .int) 5 c [.ref ((q 0))] (zwM c q x) (zwM c q out.2) (some (.int out.1)) := zK_of zp_Mo rfl (Nat.le_of_ble_eq_true rfl) (zq_Mo c q _ _) (fun X hX hR => by
  show Go X (zwM c q x) [(0, .ref ((q 0)))] 0 []
  rw [k_Mo_endTurn] at h
  refine g_aload_n (pc := 0) hX d_Mo_endTurn_0 rfl 0 rfl ?_
  refine gf_Mo_181 (pc := 1) (v := .int ((x.1 19))) hX 0 rfl rfl d_Mo_endTurn_1 ?_
  refine g_if_ne (pc := 4) (tgt := 13) hX d_Mo_endTurn_4 (by decide) h (fun c1 h => ?_) (fun c1 h => ?_)
  · refine g_aload_n (pc := 13) hX d_Mo_endTurn_13 rfl 0 rfl ?_
    obtain ⟨o2, e2, h⟩ := zbind h
    refine g_cvV (pc := 14) (w1 := []) (w2 := []) (st := []) (w' := (zwM c q o2)) hX zk_Mo_remembers zs_Mo_remembers zL_Mo_175 (c_Mo_remembers c q x e2) rfl rfl rfl rfl (zself _) (zself _).symm 0 10 rfl rfl rfl d_Mo_endTurn_14 ?_
    refine g_aload_n (pc := 17) hX d_Mo_endTurn_17 rfl 0 rfl ?_
    obtain ⟨o3, e3, h⟩ := zbind h
    refine g_cvI (pc := 18) (w1 := []) (w2 := []) (st := []) (w' := (zwM c q o2)) hX zk_Mo_current zs_Mo_current zL_Mo_136 (c_Mo_current c q o2 e3) rfl rfl rfl rfl (zself _) (zself _).symm 0 10 rfl rfl rfl d_Mo_endTurn_18 ?_
    refine g_istore_n (pc := 21) (L' := [(1, .int o3), (0, .ref ((q 0)))]) hX d_Mo_endTurn_21 rfl rfl rfl ?_
    refine g_aload_n (pc := 22) hX d_Mo_endTurn_22 rfl 1 rfl ?_
    refine g_bipush (pc := 23) hX d_Mo_endTurn_23 ze_9 ?_
    refine g_iload_n (pc := 25) hX d_Mo_endTurn_25 rfl 0 rfl ?_
    refine g_aload_n (pc := 26) hX d_Mo_endTurn_26 rfl 1 rfl ?_
    refine gf_Mo_149 (pc := 27) (v := .int ((o2.1 22))) hX 0 rfl rfl d_Mo_endTurn_27 ?_
    obtain ⟨o4, e4, h⟩ := zbind h
    refine g_cvV (pc := 30) (w1 := []) (w2 := []) (st := []) (w' := (zwM c q o4)) hX zk_Mo_notes zs_Mo_notes zL_Mo_102 (c_Mo_notes c q o2 ((9 : Int32)) o3 ((o2.1 22)) e4) rfl rfl rfl rfl (zself _) (zself _).symm 0 10 rfl rfl rfl d_Mo_endTurn_30 ?_
    refine g_aload_n (pc := 33) hX d_Mo_endTurn_33 rfl 1 rfl ?_
    refine g_iload_n (pc := 34) hX d_Mo_endTurn_34 rfl 0 rfl ?_
    refine g_iconst (pc := 35) hX d_Mo_endTurn_35 zc_0 ?_
    obtain ⟨o5, e5, h⟩ := zbind h
    refine g_cvV (pc := 36) (w1 := []) (w2 := []) (st := []) (w' := (zwM c q o5)) hX zk_Mo_counts zs_Mo_counts zL_Mo_152 (c_Mo_counts c q o4 o3 ((0 : Int32)) e5) rfl rfl rfl rfl (zself _) (zself _).symm 0 10 rfl rfl rfl d_Mo_endTurn_36 ?_
    refine g_aload_n (pc := 39) hX d_Mo_endTurn_39 rfl 1 rfl ?_
    obtain ⟨o6, e6, h⟩ := zbind h
    refine g_cvV (pc := 40) (w1 := []) (w2 := []) (st := []) (w' := (zwM c q o6)) hX zk_Mo_passesTurn zs_Mo_passesTurn zL_Mo_194 (c_Mo_passesTurn c q o5 e6) rfl rfl rfl rfl (zself _) (zself _).symm 0 10 rfl rfl rfl d_Mo_endTurn_40 ?_
    refine g_aload_n (pc := 43) hX d_Mo_endTurn_43 rfl 1 rfl ?_
    obtain ⟨o7, e7, h⟩ := zbind h
    refine g_cvI (pc := 44) (w1 := []) (w2 := []) (st := []) (w' := (zwM c q o6)) hX zk_Mo_current zs_Mo_current zL_Mo_136 (c_Mo_current c q o6 e7) rfl rfl rfl rfl (zself _) (zself _).symm 0 10 rfl rfl rfl d_Mo_endTurn_44 ?_
    obtain rfl := Option.some.inj h
    exact g_iret (pc := 47) hX hR d_Mo_endTurn_47
  · refine g_aload_n (pc := 7) hX d_Mo_endTurn_7 rfl 0 rfl ?_
    refine g_iconst (pc := 8) hX d_Mo_endTurn_8 zc_1 ?_
    obtain ⟨o8, e8, h⟩ := zbind h
    refine g_cvI (pc := 9) (w1 := []) (w2 := []) (st := []) (w' := (zwM c q o8.2)) hX zk_Mo_refuses zs_Mo_refuses zL_Mo_172 (c_Mo_refuses c q x ((1 : Int32)) e8) rfl rfl rfl rfl (zself _) (zself _).symm 0 10 rfl rfl rfl d_Mo_endTurn_9 ?_
    obtain rfl := Option.some.inj h
    exact g_iret (pc := 12) hX hR d_Mo_endTurn_12)
theorem d_Mo_delay_0 : decode zb_Mo_delay 0 = .ok (.aload_n 0, 1) := by decide +kernel
theorem d_Mo_delay_1 : decode zb_Mo_delay 1 = .ok (.iload_n 1, 1) := by decide +kernel
theorem d_Mo_delay_2 : decode zb_Mo_delay 2 = .ok (.invokevirtual 178, 3) := by decide +kernel
theorem d_Mo_delay_5 : decode zb_Mo_delay 5 = .ok (.ifCond .ne 5, 3) := by decide +kernel
theorem d_Mo_delay_8 : decode zb_Mo_delay 8 = .ok (.iconst (-1), 1) := by decide +kernel
theorem d_Mo_delay_9 : decode zb_Mo_delay 9 = .ok (.ireturn, 1) := by decide +kernel
theorem d_Mo_delay_10 : decode zb_Mo_delay 10 = .ok (.aload_n 0, 1) := by decide +kernel
theorem d_Mo_delay_11 : decode zb_Mo_delay 11 = .ok (.getfield 181, 3) := by decide +kernel
theorem d_Mo_delay_14 : decode zb_Mo_delay 14 = .ok (.ifCond .ne 9, 3) := by decide +kernel
theorem d_Mo_delay_17 : decode zb_Mo_delay 17 = .ok (.aload_n 0, 1) := by decide +kernel
theorem d_Mo_delay_18 : decode zb_Mo_delay 18 = .ok (.iconst 1, 1) := by decide +kernel
theorem d_Mo_delay_19 : decode zb_Mo_delay 19 = .ok (.invokevirtual 172, 3) := by decide +kernel
theorem d_Mo_delay_22 : decode zb_Mo_delay 22 = .ok (.ireturn, 1) := by decide +kernel
theorem d_Mo_delay_23 : decode zb_Mo_delay 23 = .ok (.aload_n 0, 1) := by decide +kernel
theorem d_Mo_delay_24 : decode zb_Mo_delay 24 = .ok (.invokevirtual 136, 3) := by decide +kernel
theorem d_Mo_delay_27 : decode zb_Mo_delay 27 = .ok (.istore_n 2, 1) := by decide +kernel
theorem d_Mo_delay_28 : decode zb_Mo_delay 28 = .ok (.aload_n 0, 1) := by decide +kernel
theorem d_Mo_delay_29 : decode zb_Mo_delay 29 = .ok (.iload_n 2, 1) := by decide +kernel
theorem d_Mo_delay_30 : decode zb_Mo_delay 30 = .ok (.invokevirtual 197, 3) := by decide +kernel
theorem d_Mo_delay_33 : decode zb_Mo_delay 33 = .ok (.ifCond .ne 9, 3) := by decide +kernel
theorem d_Mo_delay_36 : decode zb_Mo_delay 36 = .ok (.aload_n 0, 1) := by decide +kernel
theorem d_Mo_delay_37 : decode zb_Mo_delay 37 = .ok (.iconst 3, 1) := by decide +kernel
theorem d_Mo_delay_38 : decode zb_Mo_delay 38 = .ok (.invokevirtual 172, 3) := by decide +kernel
theorem d_Mo_delay_41 : decode zb_Mo_delay 41 = .ok (.ireturn, 1) := by decide +kernel
theorem d_Mo_delay_42 : decode zb_Mo_delay 42 = .ok (.aload_n 0, 1) := by decide +kernel
theorem d_Mo_delay_43 : decode zb_Mo_delay 43 = .ok (.getfield 143, 3) := by decide +kernel
theorem d_Mo_delay_46 : decode zb_Mo_delay 46 = .ok (.iconst 1, 1) := by decide +kernel
theorem d_Mo_delay_47 : decode zb_Mo_delay 47 = .ok (.if_icmp .ne 9, 3) := by decide +kernel
theorem d_Mo_delay_50 : decode zb_Mo_delay 50 = .ok (.aload_n 0, 1) := by decide +kernel
theorem d_Mo_delay_51 : decode zb_Mo_delay 51 = .ok (.iconst 4, 1) := by decide +kernel
theorem d_Mo_delay_52 : decode zb_Mo_delay 52 = .ok (.invokevirtual 172, 3) := by decide +kernel
theorem d_Mo_delay_55 : decode zb_Mo_delay 55 = .ok (.ireturn, 1) := by decide +kernel
theorem d_Mo_delay_56 : decode zb_Mo_delay 56 = .ok (.aload_n 0, 1) := by decide +kernel
theorem d_Mo_delay_57 : decode zb_Mo_delay 57 = .ok (.iload_n 1, 1) := by decide +kernel
theorem d_Mo_delay_58 : decode zb_Mo_delay 58 = .ok (.invokevirtual 200, 3) := by decide +kernel
theorem d_Mo_delay_61 : decode zb_Mo_delay 61 = .ok (.istore_n 3, 1) := by decide +kernel
theorem d_Mo_delay_62 : decode zb_Mo_delay 62 = .ok (.iload_n 3, 1) := by decide +kernel
theorem d_Mo_delay_63 : decode zb_Mo_delay 63 = .ok (.aload_n 0, 1) := by decide +kernel
theorem d_Mo_delay_64 : decode zb_Mo_delay 64 = .ok (.getfield 126, 3) := by decide +kernel
theorem d_Mo_delay_67 : decode zb_Mo_delay 67 = .ok (.if_icmp .gt 10, 3) := by decide +kernel
theorem d_Mo_delay_70 : decode zb_Mo_delay 70 = .ok (.aload_n 0, 1) := by decide +kernel
theorem d_Mo_delay_71 : decode zb_Mo_delay 71 = .ok (.bipush 11, 2) := by decide +kernel
theorem d_Mo_delay_73 : decode zb_Mo_delay 73 = .ok (.invokevirtual 172, 3) := by decide +kernel
theorem d_Mo_delay_76 : decode zb_Mo_delay 76 = .ok (.ireturn, 1) := by decide +kernel
theorem d_Mo_delay_77 : decode zb_Mo_delay 77 = .ok (.aload_n 0, 1) := by decide +kernel
theorem d_Mo_delay_78 : decode zb_Mo_delay 78 = .ok (.invokevirtual 175, 3) := by decide +kernel
theorem d_Mo_delay_81 : decode zb_Mo_delay 81 = .ok (.aload_n 0, 1) := by decide +kernel
theorem d_Mo_delay_82 : decode zb_Mo_delay 82 = .ok (.getfield 126, 3) := by decide +kernel
theorem d_Mo_delay_85 : decode zb_Mo_delay 85 = .ok (.istore 4, 2) := by decide +kernel
theorem d_Mo_delay_87 : decode zb_Mo_delay 87 = .ok (.iload 4, 2) := by decide +kernel
theorem d_Mo_delay_89 : decode zb_Mo_delay 89 = .ok (.iload_n 3, 1) := by decide +kernel
theorem d_Mo_delay_90 : decode zb_Mo_delay 90 = .ok (.if_icmp .ge 25, 3) := by decide +kernel
theorem d_Mo_delay_93 : decode zb_Mo_delay 93 = .ok (.aload_n 0, 1) := by decide +kernel
theorem d_Mo_delay_94 : decode zb_Mo_delay 94 = .ok (.getfield 40, 3) := by decide +kernel
theorem d_Mo_delay_97 : decode zb_Mo_delay 97 = .ok (.iload 4, 2) := by decide +kernel
theorem d_Mo_delay_99 : decode zb_Mo_delay 99 = .ok (.aload_n 0, 1) := by decide +kernel
theorem d_Mo_delay_100 : decode zb_Mo_delay 100 = .ok (.getfield 40, 3) := by decide +kernel
theorem d_Mo_delay_103 : decode zb_Mo_delay 103 = .ok (.iload 4, 2) := by decide +kernel
theorem d_Mo_delay_105 : decode zb_Mo_delay 105 = .ok (.iconst 1, 1) := by decide +kernel
theorem d_Mo_delay_106 : decode zb_Mo_delay 106 = .ok (.iadd, 1) := by decide +kernel
theorem d_Mo_delay_107 : decode zb_Mo_delay 107 = .ok (.iaload, 1) := by decide +kernel
theorem d_Mo_delay_108 : decode zb_Mo_delay 108 = .ok (.iastore, 1) := by decide +kernel
theorem d_Mo_delay_109 : decode zb_Mo_delay 109 = .ok (.iinc 4 1, 3) := by decide +kernel
theorem d_Mo_delay_112 : decode zb_Mo_delay 112 = .ok (.goto (-25), 3) := by decide +kernel
theorem d_Mo_delay_115 : decode zb_Mo_delay 115 = .ok (.aload_n 0, 1) := by decide +kernel
theorem d_Mo_delay_116 : decode zb_Mo_delay 116 = .ok (.getfield 40, 3) := by decide +kernel
theorem d_Mo_delay_119 : decode zb_Mo_delay 119 = .ok (.iload_n 3, 1) := by decide +kernel
theorem d_Mo_delay_120 : decode zb_Mo_delay 120 = .ok (.iload_n 2, 1) := by decide +kernel
theorem d_Mo_delay_121 : decode zb_Mo_delay 121 = .ok (.iastore, 1) := by decide +kernel
theorem d_Mo_delay_122 : decode zb_Mo_delay 122 = .ok (.aload_n 0, 1) := by decide +kernel
theorem d_Mo_delay_123 : decode zb_Mo_delay 123 = .ok (.invokevirtual 163, 3) := by decide +kernel
theorem d_Mo_delay_126 : decode zb_Mo_delay 126 = .ok (.aload_n 0, 1) := by decide +kernel
theorem d_Mo_delay_127 : decode zb_Mo_delay 127 = .ok (.invokevirtual 136, 3) := by decide +kernel
theorem d_Mo_delay_130 : decode zb_Mo_delay 130 = .ok (.ireturn, 1) := by decide +kernel
def k_Mo_delay_87 (l1 : Int32) : Nat → Int32 → Int32 → Int32 → zsM → Option (Int32 × zsM)
  | 0, _, _, _, _ => none
  | fu + 1, l2, l3, l4, x => (if l4 < l3 then (if zOut ((l4 + (1 : Int32))) 8 then none else (if zOut l4 8 then none else k_Mo_delay_87 l1 fu l2 l3 ((l4 + (1 : Int32))) ((x.1, (va_up x.2 10 (upd ((x.2 10)) l4.toNatClampNeg ((((x.2 10)) ((l4 + (1 : Int32))).toNatClampNeg)))))))) else (if zOut l3 8 then none else (k_Mo_beginsTurn ((x.1, (va_up x.2 10 (upd ((x.2 10)) l3.toNatClampNeg l2))))).bind fun o12 => (k_Mo_current o12).bind fun o13 => some (o13, o12)))
set_option maxRecDepth 20000 in
theorem w_Mo_delay_87 {X : zX} {c : zY} {q : Nat → Nat} {l1 : Int32} {out : Int32 × zsM} (hX : Ok X zr_Mo zb_Mo_delay 5 4 c) (hR : Rt X (some .int) (some (.int out.1)) (zwM c q out.2)) : ∀ (fu : Nat) (l2 : Int32) (l3 : Int32) (l4 : Int32) (x : zsM), k_Mo_delay_87 l1 fu l2 l3 l4 x = some out → Go X (zwM c q x) [(0, .ref ((q 0))), (2, .int l2), (3, .int l3), (4, .int l4)] 87 [] := by
  intro fu
  induction fu with
  | zero => intro l2 l3 l4 x h; rw [k_Mo_delay_87] at h; cases h
  | succ fu ih =>
    intro l2 l3 l4 x h
    rw [k_Mo_delay_87] at h
    refine g_iload (pc := 87) hX d_Mo_delay_87 3 rfl ?_
    refine g_iload_n (pc := 89) hX d_Mo_delay_89 rfl 2 rfl ?_
    refine g_icmp_ge (pc := 90) (tgt := 115) hX d_Mo_delay_90 (by decide) h (fun c11 h => ?_) (fun c11 h => ?_)
    · refine g_aload_n (pc := 115) hX d_Mo_delay_115 rfl 0 rfl ?_
      refine gf_Mo_40 (pc := 116) (v := .ref ((q 11))) hX 0 rfl rfl d_Mo_delay_116 ?_
      refine g_iload_n (pc := 119) hX d_Mo_delay_119 rfl 2 rfl ?_
      refine g_iload_n (pc := 120) hX d_Mo_delay_120 rfl 1 rfl ?_
      refine g_iast (pc := 121) (f := (x.2 10)) (w' := (zwM c q ((x.1, (va_up x.2 10 (upd ((x.2 10)) l3.toNatClampNeg l2)))))) hX 11 rfl h (sa_Mo_11 c q x (upd ((x.2 10)) l3.toNatClampNeg l2)) d_Mo_delay_121 (fun h => ?_)
      refine g_aload_n (pc := 122) hX d_Mo_delay_122 rfl 0 rfl ?_
      obtain ⟨o12, e12, h⟩ := zbind h
      refine g_cvV (pc := 123) (w1 := []) (w2 := []) (st := []) (w' := (zwM c q o12)) hX zk_Mo_beginsTurn zs_Mo_beginsTurn zL_Mo_163 (c_Mo_beginsTurn c q ((x.1, (va_up x.2 10 (upd ((x.2 10)) l3.toNatClampNeg l2)))) e12) rfl rfl rfl rfl (zself _) (zself _).symm 0 10 rfl rfl rfl d_Mo_delay_123 ?_
      refine g_aload_n (pc := 126) hX d_Mo_delay_126 rfl 0 rfl ?_
      obtain ⟨o13, e13, h⟩ := zbind h
      refine g_cvI (pc := 127) (w1 := []) (w2 := []) (st := []) (w' := (zwM c q o12)) hX zk_Mo_current zs_Mo_current zL_Mo_136 (c_Mo_current c q o12 e13) rfl rfl rfl rfl (zself _) (zself _).symm 0 10 rfl rfl rfl d_Mo_delay_127 ?_
      obtain rfl := Option.some.inj h
      exact g_iret (pc := 130) hX hR d_Mo_delay_130
    · refine g_aload_n (pc := 93) hX d_Mo_delay_93 rfl 0 rfl ?_
      refine gf_Mo_40 (pc := 94) (v := .ref ((q 11))) hX 0 rfl rfl d_Mo_delay_94 ?_
      refine g_iload (pc := 97) hX d_Mo_delay_97 3 rfl ?_
      refine g_aload_n (pc := 99) hX d_Mo_delay_99 rfl 0 rfl ?_
      refine gf_Mo_40 (pc := 100) (v := .ref ((q 11))) hX 0 rfl rfl d_Mo_delay_100 ?_
      refine g_iload (pc := 103) hX d_Mo_delay_103 3 rfl ?_
      refine g_iconst (pc := 105) hX d_Mo_delay_105 zc_1 ?_
      refine g_iadd (pc := 106) hX d_Mo_delay_106 ?_
      refine g_iald (pc := 107) (f := (x.2 10)) hX 11 rfl h d_Mo_delay_107 (fun h => ?_)
      refine g_iast (pc := 108) (f := (x.2 10)) (w' := (zwM c q ((x.1, (va_up x.2 10 (upd ((x.2 10)) l4.toNatClampNeg ((((x.2 10)) ((l4 + (1 : Int32))).toNatClampNeg)))))))) hX 11 rfl h (sa_Mo_11 c q x (upd ((x.2 10)) l4.toNatClampNeg ((((x.2 10)) ((l4 + (1 : Int32))).toNatClampNeg)))) d_Mo_delay_108 (fun h => ?_)
      refine g_iinc (pc := 109) (q := 3) (L' := [(4, .int ((l4 + (1 : Int32)))), (0, .ref ((q 0))), (2, .int l2), (3, .int l3)]) hX d_Mo_delay_109 rfl zc_1 rfl rfl ?_
      refine g_goto (pc := 112) (tgt := 87) hX d_Mo_delay_112 (by decide) ?_
      refine g_ls (L' := [(0, .ref ((q 0))), (2, .int l2), (3, .int l3), (4, .int ((l4 + (1 : Int32))))]) [1, 2, 3, 0] rfl ?_
      exact ih _ _ _ _ h
def k_Mo_delay (x : zsM) (l1 : Int32) : Option (Int32 × zsM) := (k_Mo_isFighter x l1).bind fun o1 => (if o1 = 0 then some ((-1 : Int32), x) else (if (x.1 19) = 0 then (k_Mo_refuses x ((1 : Int32))).bind fun o17 => some (o17.1, o17.2) else (k_Mo_current x).bind fun o4 => (k_Mo_canAct x o4).bind fun o5 => (if o5 = 0 then (k_Mo_refuses x ((3 : Int32))).bind fun o16 => some (o16.1, o16.2) else (if (x.1 24) = (1 : Int32) then (k_Mo_refuses x ((4 : Int32))).bind fun o15 => some (o15.1, o15.2) else (k_Mo_placeOf x l1).bind fun o8 => (if (x.1 20) < o8 then (k_Mo_remembers x).bind fun o10 => k_Mo_delay_87 l1 zFu o4 o8 ((o10.1 20)) o10 else (k_Mo_refuses x ((11 : Int32))).bind fun o14 => some (o14.1, o14.2))))))
set_option maxRecDepth 20000 in
theorem c_Mo_delay (c : zY) (q : Nat → Nat) (x : zsM) (l1 : Int32) {out : Int32 × zsM} (h : k_Mo_delay x l1 = some out) : KM zy_Mo_delay zb_Mo_delay 5 (some .int) 4 c [.ref ((q 0)), .int l1] (zwM c q x) (zwM c q out.2) (some (.int out.1)) := zK_of zp_Mo rfl (Nat.le_of_ble_eq_true rfl) (zq_Mo c q _ _) (fun X hX hR => by
  show Go X (zwM c q x) [(0, .ref ((q 0))), (1, .int l1)] 0 []
  rw [k_Mo_delay] at h
  refine g_aload_n (pc := 0) hX d_Mo_delay_0 rfl 0 rfl ?_
  refine g_iload_n (pc := 1) hX d_Mo_delay_1 rfl 1 rfl ?_
  obtain ⟨o1, e1, h⟩ := zbind h
  refine g_cvI (pc := 2) (w1 := []) (w2 := []) (st := []) (w' := (zwM c q x)) hX zk_Mo_isFighter zs_Mo_isFighter zL_Mo_178 (c_Mo_isFighter c q x l1 e1) rfl rfl rfl rfl (zself _) (zself _).symm 0 10 rfl rfl rfl d_Mo_delay_2 ?_
  refine g_if_ne (pc := 5) (tgt := 10) hX d_Mo_delay_5 (by decide) h (fun c2 h => ?_) (fun c2 h => ?_)
  · refine g_aload_n (pc := 10) hX d_Mo_delay_10 rfl 0 rfl ?_
    refine gf_Mo_181 (pc := 11) (v := .int ((x.1 19))) hX 0 rfl rfl d_Mo_delay_11 ?_
    refine g_if_ne (pc := 14) (tgt := 23) hX d_Mo_delay_14 (by decide) h (fun c3 h => ?_) (fun c3 h => ?_)
    · refine g_aload_n (pc := 23) hX d_Mo_delay_23 rfl 0 rfl ?_
      obtain ⟨o4, e4, h⟩ := zbind h
      refine g_cvI (pc := 24) (w1 := []) (w2 := []) (st := []) (w' := (zwM c q x)) hX zk_Mo_current zs_Mo_current zL_Mo_136 (c_Mo_current c q x e4) rfl rfl rfl rfl (zself _) (zself _).symm 0 10 rfl rfl rfl d_Mo_delay_24 ?_
      refine g_istore_n (pc := 27) (L' := [(2, .int o4), (0, .ref ((q 0))), (1, .int l1)]) hX d_Mo_delay_27 rfl rfl rfl ?_
      refine g_aload_n (pc := 28) hX d_Mo_delay_28 rfl 1 rfl ?_
      refine g_iload_n (pc := 29) hX d_Mo_delay_29 rfl 0 rfl ?_
      obtain ⟨o5, e5, h⟩ := zbind h
      refine g_cvI (pc := 30) (w1 := []) (w2 := []) (st := []) (w' := (zwM c q x)) hX zk_Mo_canAct zs_Mo_canAct zL_Mo_197 (c_Mo_canAct c q x o4 e5) rfl rfl rfl rfl (zself _) (zself _).symm 0 10 rfl rfl rfl d_Mo_delay_30 ?_
      refine g_if_ne (pc := 33) (tgt := 42) hX d_Mo_delay_33 (by decide) h (fun c6 h => ?_) (fun c6 h => ?_)
      · refine g_aload_n (pc := 42) hX d_Mo_delay_42 rfl 1 rfl ?_
        refine gf_Mo_143 (pc := 43) (v := .int ((x.1 24))) hX 0 rfl rfl d_Mo_delay_43 ?_
        refine g_iconst (pc := 46) hX d_Mo_delay_46 zc_1 ?_
        refine g_icmp_ne (pc := 47) (tgt := 56) hX d_Mo_delay_47 (by decide) h (fun c7 h => ?_) (fun c7 h => ?_)
        · refine g_aload_n (pc := 56) hX d_Mo_delay_56 rfl 1 rfl ?_
          refine g_iload_n (pc := 57) hX d_Mo_delay_57 rfl 2 rfl ?_
          obtain ⟨o8, e8, h⟩ := zbind h
          refine g_cvI (pc := 58) (w1 := []) (w2 := []) (st := []) (w' := (zwM c q x)) hX zk_Mo_placeOf zs_Mo_placeOf zL_Mo_200 (c_Mo_placeOf c q x l1 e8) rfl rfl rfl rfl (zself _) (zself _).symm 0 10 rfl rfl rfl d_Mo_delay_58 ?_
          refine g_istore_n (pc := 61) (L' := [(3, .int o8), (2, .int o4), (0, .ref ((q 0))), (1, .int l1)]) hX d_Mo_delay_61 rfl rfl rfl ?_
          refine g_iload_n (pc := 62) hX d_Mo_delay_62 rfl 0 rfl ?_
          refine g_aload_n (pc := 63) hX d_Mo_delay_63 rfl 2 rfl ?_
          refine gf_Mo_126 (pc := 64) (v := .int ((x.1 20))) hX 0 rfl rfl d_Mo_delay_64 ?_
          refine g_icmp_gt (pc := 67) (tgt := 77) hX d_Mo_delay_67 (by decide) h (fun c9 h => ?_) (fun c9 h => ?_)
          · refine g_aload_n (pc := 77) hX d_Mo_delay_77 rfl 2 rfl ?_
            obtain ⟨o10, e10, h⟩ := zbind h
            refine g_cvV (pc := 78) (w1 := []) (w2 := []) (st := []) (w' := (zwM c q o10)) hX zk_Mo_remembers zs_Mo_remembers zL_Mo_175 (c_Mo_remembers c q x e10) rfl rfl rfl rfl (zself _) (zself _).symm 0 10 rfl rfl rfl d_Mo_delay_78 ?_
            refine g_aload_n (pc := 81) hX d_Mo_delay_81 rfl 2 rfl ?_
            refine gf_Mo_126 (pc := 82) (v := .int ((o10.1 20))) hX 0 rfl rfl d_Mo_delay_82 ?_
            refine g_istore (pc := 85) (L' := [(4, .int ((o10.1 20))), (3, .int o8), (2, .int o4), (0, .ref ((q 0))), (1, .int l1)]) hX d_Mo_delay_85 rfl rfl ?_
            refine g_ls (L' := [(0, .ref ((q 0))), (2, .int o4), (3, .int o8), (4, .int ((o10.1 20)))]) [3, 2, 1, 0] rfl ?_
            exact w_Mo_delay_87 hX hR _ _ _ _ _ h
          · refine g_aload_n (pc := 70) hX d_Mo_delay_70 rfl 2 rfl ?_
            refine g_bipush (pc := 71) hX d_Mo_delay_71 ze_11 ?_
            obtain ⟨o14, e14, h⟩ := zbind h
            refine g_cvI (pc := 73) (w1 := []) (w2 := []) (st := []) (w' := (zwM c q o14.2)) hX zk_Mo_refuses zs_Mo_refuses zL_Mo_172 (c_Mo_refuses c q x ((11 : Int32)) e14) rfl rfl rfl rfl (zself _) (zself _).symm 0 10 rfl rfl rfl d_Mo_delay_73 ?_
            obtain rfl := Option.some.inj h
            exact g_iret (pc := 76) hX hR d_Mo_delay_76
        · refine g_aload_n (pc := 50) hX d_Mo_delay_50 rfl 1 rfl ?_
          refine g_iconst (pc := 51) hX d_Mo_delay_51 zc_4 ?_
          obtain ⟨o15, e15, h⟩ := zbind h
          refine g_cvI (pc := 52) (w1 := []) (w2 := []) (st := []) (w' := (zwM c q o15.2)) hX zk_Mo_refuses zs_Mo_refuses zL_Mo_172 (c_Mo_refuses c q x ((4 : Int32)) e15) rfl rfl rfl rfl (zself _) (zself _).symm 0 10 rfl rfl rfl d_Mo_delay_52 ?_
          obtain rfl := Option.some.inj h
          exact g_iret (pc := 55) hX hR d_Mo_delay_55
      · refine g_aload_n (pc := 36) hX d_Mo_delay_36 rfl 1 rfl ?_
        refine g_iconst (pc := 37) hX d_Mo_delay_37 zc_3 ?_
        obtain ⟨o16, e16, h⟩ := zbind h
        refine g_cvI (pc := 38) (w1 := []) (w2 := []) (st := []) (w' := (zwM c q o16.2)) hX zk_Mo_refuses zs_Mo_refuses zL_Mo_172 (c_Mo_refuses c q x ((3 : Int32)) e16) rfl rfl rfl rfl (zself _) (zself _).symm 0 10 rfl rfl rfl d_Mo_delay_38 ?_
        obtain rfl := Option.some.inj h
        exact g_iret (pc := 41) hX hR d_Mo_delay_41
    · refine g_aload_n (pc := 17) hX d_Mo_delay_17 rfl 0 rfl ?_
      refine g_iconst (pc := 18) hX d_Mo_delay_18 zc_1 ?_
      obtain ⟨o17, e17, h⟩ := zbind h
      refine g_cvI (pc := 19) (w1 := []) (w2 := []) (st := []) (w' := (zwM c q o17.2)) hX zk_Mo_refuses zs_Mo_refuses zL_Mo_172 (c_Mo_refuses c q x ((1 : Int32)) e17) rfl rfl rfl rfl (zself _) (zself _).symm 0 10 rfl rfl rfl d_Mo_delay_19 ?_
      obtain rfl := Option.some.inj h
      exact g_iret (pc := 22) hX hR d_Mo_delay_22
  · refine g_iconst (pc := 8) hX d_Mo_delay_8 zc_m1 ?_
    obtain rfl := Option.some.inj h
    exact g_iret (pc := 9) hX hR d_Mo_delay_9)
theorem d_Mo_isHeld_0 : decode zb_Mo_isHeld 0 = .ok (.aload_n 0, 1) := by decide +kernel
theorem d_Mo_isHeld_1 : decode zb_Mo_isHeld 1 = .ok (.iload_n 1, 1) := by decide +kernel
theorem d_Mo_isHeld_2 : decode zb_Mo_isHeld 2 = .ok (.invokevirtual 88, 3) := by decide +kernel
theorem d_Mo_isHeld_5 : decode zb_Mo_isHeld 5 = .ok (.istore_n 3, 1) := by decide +kernel
theorem d_Mo_isHeld_6 : decode zb_Mo_isHeld 6 = .ok (.iload_n 3, 1) := by decide +kernel
theorem d_Mo_isHeld_7 : decode zb_Mo_isHeld 7 = .ok (.ifCond .lt 25, 3) := by decide +kernel
theorem d_Mo_isHeld_10 : decode zb_Mo_isHeld 10 = .ok (.aload_n 0, 1) := by decide +kernel
theorem d_Mo_isHeld_11 : decode zb_Mo_isHeld 11 = .ok (.getfield 13, 3) := by decide +kernel
theorem d_Mo_isHeld_14 : decode zb_Mo_isHeld 14 = .ok (.iload_n 3, 1) := by decide +kernel
theorem d_Mo_isHeld_15 : decode zb_Mo_isHeld 15 = .ok (.iaload, 1) := by decide +kernel
theorem d_Mo_isHeld_16 : decode zb_Mo_isHeld 16 = .ok (.iload_n 2, 1) := by decide +kernel
theorem d_Mo_isHeld_17 : decode zb_Mo_isHeld 17 = .ok (.if_icmp .eq 15, 3) := by decide +kernel
theorem d_Mo_isHeld_20 : decode zb_Mo_isHeld 20 = .ok (.aload_n 0, 1) := by decide +kernel
theorem d_Mo_isHeld_21 : decode zb_Mo_isHeld 21 = .ok (.iload_n 3, 1) := by decide +kernel
theorem d_Mo_isHeld_22 : decode zb_Mo_isHeld 22 = .ok (.invokevirtual 110, 3) := by decide +kernel
theorem d_Mo_isHeld_25 : decode zb_Mo_isHeld 25 = .ok (.ifCond .ne 7, 3) := by decide +kernel
theorem d_Mo_isHeld_28 : decode zb_Mo_isHeld 28 = .ok (.iconst 1, 1) := by decide +kernel
theorem d_Mo_isHeld_29 : decode zb_Mo_isHeld 29 = .ok (.goto 4, 3) := by decide +kernel
theorem d_Mo_isHeld_32 : decode zb_Mo_isHeld 32 = .ok (.iconst 0, 1) := by decide +kernel
theorem d_Mo_isHeld_33 : decode zb_Mo_isHeld 33 = .ok (.ireturn, 1) := by decide +kernel
def k_Mo_isHeld (x : zsM) (l1 : Int32) (l2 : Int32) : Option (Int32) := (k_Mo_fighterOn x l1).bind fun o1 => (if o1 < 0 then some ((0 : Int32)) else (if zOut o1 8 then none else (if (((x.2 1)) o1.toNatClampNeg) = l2 then some ((0 : Int32)) else (k_Mo_isDown x o1).bind fun o4 => (if o4 = 0 then some ((1 : Int32)) else some ((0 : Int32))))))
set_option maxRecDepth 20000 in
theorem c_Mo_isHeld (c : zY) (q : Nat → Nat) (x : zsM) (l1 : Int32) (l2 : Int32) {out : Int32} (h : k_Mo_isHeld x l1 l2 = some out) : KM zy_Mo_isHeld zb_Mo_isHeld 4 (some .boolean) 1 c [.ref ((q 0)), .int l1, .int l2] (zwM c q x) (zwM c q x) (some (.int out)) := zK_of zp_Mo rfl (Nat.le_of_ble_eq_true rfl) (zq_Mo c q _ _) (fun X hX hR => by
  show Go X (zwM c q x) [(0, .ref ((q 0))), (1, .int l1), (2, .int l2)] 0 []
  rw [k_Mo_isHeld] at h
  refine g_aload_n (pc := 0) hX d_Mo_isHeld_0 rfl 0 rfl ?_
  refine g_iload_n (pc := 1) hX d_Mo_isHeld_1 rfl 1 rfl ?_
  obtain ⟨o1, e1, h⟩ := zbind h
  refine g_cvI (pc := 2) (w1 := []) (w2 := []) (st := []) (w' := (zwM c q x)) hX zk_Mo_fighterOn zs_Mo_fighterOn zL_Mo_88 (c_Mo_fighterOn c q x l1 e1) rfl rfl rfl rfl (zself _) (zself _).symm 0 10 rfl rfl rfl d_Mo_isHeld_2 ?_
  refine g_istore_n (pc := 5) (L' := [(3, .int o1), (0, .ref ((q 0))), (1, .int l1), (2, .int l2)]) hX d_Mo_isHeld_5 rfl rfl rfl ?_
  refine g_iload_n (pc := 6) hX d_Mo_isHeld_6 rfl 0 rfl ?_
  refine g_if_lt (pc := 7) (tgt := 32) hX d_Mo_isHeld_7 (by decide) h (fun c2 h => ?_) (fun c2 h => ?_)
  · refine g_iconst (pc := 32) hX d_Mo_isHeld_32 zc_0 ?_
    obtain rfl := Option.some.inj h
    exact g_zret (pc := 33) hX hR (Or.inl rfl) d_Mo_isHeld_33
  · refine g_aload_n (pc := 10) hX d_Mo_isHeld_10 rfl 1 rfl ?_
    refine gf_Mo_13 (pc := 11) (v := .ref ((q 2))) hX 0 rfl rfl d_Mo_isHeld_11 ?_
    refine g_iload_n (pc := 14) hX d_Mo_isHeld_14 rfl 0 rfl ?_
    refine g_iald (pc := 15) (f := (x.2 1)) hX 2 rfl h d_Mo_isHeld_15 (fun h => ?_)
    refine g_iload_n (pc := 16) hX d_Mo_isHeld_16 rfl 3 rfl ?_
    refine g_icmp_eq (pc := 17) (tgt := 32) hX d_Mo_isHeld_17 (by decide) h (fun c3 h => ?_) (fun c3 h => ?_)
    · refine g_iconst (pc := 32) hX d_Mo_isHeld_32 zc_0 ?_
      obtain rfl := Option.some.inj h
      exact g_zret (pc := 33) hX hR (Or.inl rfl) d_Mo_isHeld_33
    · refine g_aload_n (pc := 20) hX d_Mo_isHeld_20 rfl 1 rfl ?_
      refine g_iload_n (pc := 21) hX d_Mo_isHeld_21 rfl 0 rfl ?_
      obtain ⟨o4, e4, h⟩ := zbind h
      refine g_cvI (pc := 22) (w1 := []) (w2 := []) (st := []) (w' := (zwM c q x)) hX zk_Mo_isDown zs_Mo_isDown zL_Mo_110 (c_Mo_isDown c q x o1 e4) rfl rfl rfl rfl (zself _) (zself _).symm 0 10 rfl rfl rfl d_Mo_isHeld_22 ?_
      refine g_if_ne (pc := 25) (tgt := 32) hX d_Mo_isHeld_25 (by decide) h (fun c5 h => ?_) (fun c5 h => ?_)
      · refine g_iconst (pc := 32) hX d_Mo_isHeld_32 zc_0 ?_
        obtain rfl := Option.some.inj h
        exact g_zret (pc := 33) hX hR (Or.inl rfl) d_Mo_isHeld_33
      · refine g_iconst (pc := 28) hX d_Mo_isHeld_28 zc_1 ?_
        refine g_goto (pc := 29) (tgt := 33) hX d_Mo_isHeld_29 (by decide) ?_
        obtain rfl := Option.some.inj h
        exact g_zret (pc := 33) hX hR (Or.inr rfl) d_Mo_isHeld_33)
theorem d_Mo_findSteps_0 : decode zb_Mo_findSteps 0 = .ok (.aload_n 0, 1) := by decide +kernel
theorem d_Mo_findSteps_1 : decode zb_Mo_findSteps 1 = .ok (.invokevirtual 136, 3) := by decide +kernel
theorem d_Mo_findSteps_4 : decode zb_Mo_findSteps 4 = .ok (.istore_n 1, 1) := by decide +kernel
theorem d_Mo_findSteps_5 : decode zb_Mo_findSteps 5 = .ok (.iconst 0, 1) := by decide +kernel
theorem d_Mo_findSteps_6 : decode zb_Mo_findSteps 6 = .ok (.istore_n 2, 1) := by decide +kernel
theorem d_Mo_findSteps_7 : decode zb_Mo_findSteps 7 = .ok (.iload_n 2, 1) := by decide +kernel
theorem d_Mo_findSteps_8 : decode zb_Mo_findSteps 8 = .ok (.bipush 100, 2) := by decide +kernel
theorem d_Mo_findSteps_10 : decode zb_Mo_findSteps 10 = .ok (.if_icmp .ge 16, 3) := by decide +kernel
theorem d_Mo_findSteps_13 : decode zb_Mo_findSteps 13 = .ok (.aload_n 0, 1) := by decide +kernel
theorem d_Mo_findSteps_14 : decode zb_Mo_findSteps 14 = .ok (.getfield 56, 3) := by decide +kernel
theorem d_Mo_findSteps_17 : decode zb_Mo_findSteps 17 = .ok (.iload_n 2, 1) := by decide +kernel
theorem d_Mo_findSteps_18 : decode zb_Mo_findSteps 18 = .ok (.iconst (-1), 1) := by decide +kernel
theorem d_Mo_findSteps_19 : decode zb_Mo_findSteps 19 = .ok (.iastore, 1) := by decide +kernel
theorem d_Mo_findSteps_20 : decode zb_Mo_findSteps 20 = .ok (.iinc 2 1, 3) := by decide +kernel
theorem d_Mo_findSteps_23 : decode zb_Mo_findSteps 23 = .ok (.goto (-16), 3) := by decide +kernel
theorem d_Mo_findSteps_26 : decode zb_Mo_findSteps 26 = .ok (.aload_n 0, 1) := by decide +kernel
theorem d_Mo_findSteps_27 : decode zb_Mo_findSteps 27 = .ok (.getfield 56, 3) := by decide +kernel
theorem d_Mo_findSteps_30 : decode zb_Mo_findSteps 30 = .ok (.aload_n 0, 1) := by decide +kernel
theorem d_Mo_findSteps_31 : decode zb_Mo_findSteps 31 = .ok (.getfield 16, 3) := by decide +kernel
theorem d_Mo_findSteps_34 : decode zb_Mo_findSteps 34 = .ok (.iload_n 1, 1) := by decide +kernel
theorem d_Mo_findSteps_35 : decode zb_Mo_findSteps 35 = .ok (.iaload, 1) := by decide +kernel
theorem d_Mo_findSteps_36 : decode zb_Mo_findSteps 36 = .ok (.iconst 0, 1) := by decide +kernel
theorem d_Mo_findSteps_37 : decode zb_Mo_findSteps 37 = .ok (.iastore, 1) := by decide +kernel
theorem d_Mo_findSteps_38 : decode zb_Mo_findSteps 38 = .ok (.aload_n 0, 1) := by decide +kernel
theorem d_Mo_findSteps_39 : decode zb_Mo_findSteps 39 = .ok (.getfield 59, 3) := by decide +kernel
theorem d_Mo_findSteps_42 : decode zb_Mo_findSteps 42 = .ok (.iconst 0, 1) := by decide +kernel
theorem d_Mo_findSteps_43 : decode zb_Mo_findSteps 43 = .ok (.aload_n 0, 1) := by decide +kernel
theorem d_Mo_findSteps_44 : decode zb_Mo_findSteps 44 = .ok (.getfield 16, 3) := by decide +kernel
theorem d_Mo_findSteps_47 : decode zb_Mo_findSteps 47 = .ok (.iload_n 1, 1) := by decide +kernel
theorem d_Mo_findSteps_48 : decode zb_Mo_findSteps 48 = .ok (.iaload, 1) := by decide +kernel
theorem d_Mo_findSteps_49 : decode zb_Mo_findSteps 49 = .ok (.iastore, 1) := by decide +kernel
theorem d_Mo_findSteps_50 : decode zb_Mo_findSteps 50 = .ok (.iconst 1, 1) := by decide +kernel
theorem d_Mo_findSteps_51 : decode zb_Mo_findSteps 51 = .ok (.istore_n 2, 1) := by decide +kernel
theorem d_Mo_findSteps_52 : decode zb_Mo_findSteps 52 = .ok (.iconst 0, 1) := by decide +kernel
theorem d_Mo_findSteps_53 : decode zb_Mo_findSteps 53 = .ok (.istore_n 3, 1) := by decide +kernel
theorem d_Mo_findSteps_54 : decode zb_Mo_findSteps 54 = .ok (.iload_n 3, 1) := by decide +kernel
theorem d_Mo_findSteps_55 : decode zb_Mo_findSteps 55 = .ok (.iload_n 2, 1) := by decide +kernel
theorem d_Mo_findSteps_56 : decode zb_Mo_findSteps 56 = .ok (.if_icmp .ge 112, 3) := by decide +kernel
theorem d_Mo_findSteps_59 : decode zb_Mo_findSteps 59 = .ok (.iconst 0, 1) := by decide +kernel
theorem d_Mo_findSteps_60 : decode zb_Mo_findSteps 60 = .ok (.istore 4, 2) := by decide +kernel
theorem d_Mo_findSteps_62 : decode zb_Mo_findSteps 62 = .ok (.iload 4, 2) := by decide +kernel
theorem d_Mo_findSteps_64 : decode zb_Mo_findSteps 64 = .ok (.iconst 4, 1) := by decide +kernel
theorem d_Mo_findSteps_65 : decode zb_Mo_findSteps 65 = .ok (.if_icmp .ge 97, 3) := by decide +kernel
theorem d_Mo_findSteps_68 : decode zb_Mo_findSteps 68 = .ok (.aload_n 0, 1) := by decide +kernel
theorem d_Mo_findSteps_69 : decode zb_Mo_findSteps 69 = .ok (.getfield 59, 3) := by decide +kernel
theorem d_Mo_findSteps_72 : decode zb_Mo_findSteps 72 = .ok (.iload_n 3, 1) := by decide +kernel
theorem d_Mo_findSteps_73 : decode zb_Mo_findSteps 73 = .ok (.iaload, 1) := by decide +kernel
theorem d_Mo_findSteps_74 : decode zb_Mo_findSteps 74 = .ok (.iload 4, 2) := by decide +kernel
theorem d_Mo_findSteps_76 : decode zb_Mo_findSteps 76 = .ok (.invokestatic 203, 3) := by decide +kernel
theorem d_Mo_findSteps_79 : decode zb_Mo_findSteps 79 = .ok (.istore 5, 2) := by decide +kernel
theorem d_Mo_findSteps_81 : decode zb_Mo_findSteps 81 = .ok (.iload 5, 2) := by decide +kernel
theorem d_Mo_findSteps_83 : decode zb_Mo_findSteps 83 = .ok (.ifCond .lt 73, 3) := by decide +kernel
theorem d_Mo_findSteps_86 : decode zb_Mo_findSteps 86 = .ok (.aload_n 0, 1) := by decide +kernel
theorem d_Mo_findSteps_87 : decode zb_Mo_findSteps 87 = .ok (.getfield 56, 3) := by decide +kernel
theorem d_Mo_findSteps_90 : decode zb_Mo_findSteps 90 = .ok (.iload 5, 2) := by decide +kernel
theorem d_Mo_findSteps_92 : decode zb_Mo_findSteps 92 = .ok (.iaload, 1) := by decide +kernel
theorem d_Mo_findSteps_93 : decode zb_Mo_findSteps 93 = .ok (.ifCond .ge 63, 3) := by decide +kernel
theorem d_Mo_findSteps_96 : decode zb_Mo_findSteps 96 = .ok (.aload_n 0, 1) := by decide +kernel
theorem d_Mo_findSteps_97 : decode zb_Mo_findSteps 97 = .ok (.getfield 7, 3) := by decide +kernel
theorem d_Mo_findSteps_100 : decode zb_Mo_findSteps 100 = .ok (.iload 5, 2) := by decide +kernel
theorem d_Mo_findSteps_102 : decode zb_Mo_findSteps 102 = .ok (.iaload, 1) := by decide +kernel
theorem d_Mo_findSteps_103 : decode zb_Mo_findSteps 103 = .ok (.iconst 1, 1) := by decide +kernel
theorem d_Mo_findSteps_104 : decode zb_Mo_findSteps 104 = .ok (.if_icmp .eq 52, 3) := by decide +kernel
theorem d_Mo_findSteps_107 : decode zb_Mo_findSteps 107 = .ok (.aload_n 0, 1) := by decide +kernel
theorem d_Mo_findSteps_108 : decode zb_Mo_findSteps 108 = .ok (.iload 5, 2) := by decide +kernel
theorem d_Mo_findSteps_110 : decode zb_Mo_findSteps 110 = .ok (.aload_n 0, 1) := by decide +kernel
theorem d_Mo_findSteps_111 : decode zb_Mo_findSteps 111 = .ok (.getfield 13, 3) := by decide +kernel
theorem d_Mo_findSteps_114 : decode zb_Mo_findSteps 114 = .ok (.iload_n 1, 1) := by decide +kernel
theorem d_Mo_findSteps_115 : decode zb_Mo_findSteps 115 = .ok (.iaload, 1) := by decide +kernel
theorem d_Mo_findSteps_116 : decode zb_Mo_findSteps 116 = .ok (.invokevirtual 206, 3) := by decide +kernel
theorem d_Mo_findSteps_119 : decode zb_Mo_findSteps 119 = .ok (.ifCond .eq 6, 3) := by decide +kernel
theorem d_Mo_findSteps_122 : decode zb_Mo_findSteps 122 = .ok (.goto 34, 3) := by decide +kernel
theorem d_Mo_findSteps_125 : decode zb_Mo_findSteps 125 = .ok (.aload_n 0, 1) := by decide +kernel
theorem d_Mo_findSteps_126 : decode zb_Mo_findSteps 126 = .ok (.getfield 56, 3) := by decide +kernel
theorem d_Mo_findSteps_129 : decode zb_Mo_findSteps 129 = .ok (.iload 5, 2) := by decide +kernel
theorem d_Mo_findSteps_131 : decode zb_Mo_findSteps 131 = .ok (.aload_n 0, 1) := by decide +kernel
theorem d_Mo_findSteps_132 : decode zb_Mo_findSteps 132 = .ok (.getfield 56, 3) := by decide +kernel
theorem d_Mo_findSteps_135 : decode zb_Mo_findSteps 135 = .ok (.aload_n 0, 1) := by decide +kernel
theorem d_Mo_findSteps_136 : decode zb_Mo_findSteps 136 = .ok (.getfield 59, 3) := by decide +kernel
theorem d_Mo_findSteps_139 : decode zb_Mo_findSteps 139 = .ok (.iload_n 3, 1) := by decide +kernel
theorem d_Mo_findSteps_140 : decode zb_Mo_findSteps 140 = .ok (.iaload, 1) := by decide +kernel
theorem d_Mo_findSteps_141 : decode zb_Mo_findSteps 141 = .ok (.iaload, 1) := by decide +kernel
theorem d_Mo_findSteps_142 : decode zb_Mo_findSteps 142 = .ok (.iconst 1, 1) := by decide +kernel
theorem d_Mo_findSteps_143 : decode zb_Mo_findSteps 143 = .ok (.iadd, 1) := by decide +kernel
theorem d_Mo_findSteps_144 : decode zb_Mo_findSteps 144 = .ok (.iastore, 1) := by decide +kernel
theorem d_Mo_findSteps_145 : decode zb_Mo_findSteps 145 = .ok (.aload_n 0, 1) := by decide +kernel
theorem d_Mo_findSteps_146 : decode zb_Mo_findSteps 146 = .ok (.getfield 59, 3) := by decide +kernel
theorem d_Mo_findSteps_149 : decode zb_Mo_findSteps 149 = .ok (.iload_n 2, 1) := by decide +kernel
theorem d_Mo_findSteps_150 : decode zb_Mo_findSteps 150 = .ok (.iload 5, 2) := by decide +kernel
theorem d_Mo_findSteps_152 : decode zb_Mo_findSteps 152 = .ok (.iastore, 1) := by decide +kernel
theorem d_Mo_findSteps_153 : decode zb_Mo_findSteps 153 = .ok (.iinc 2 1, 3) := by decide +kernel
theorem d_Mo_findSteps_156 : decode zb_Mo_findSteps 156 = .ok (.iinc 4 1, 3) := by decide +kernel
theorem d_Mo_findSteps_159 : decode zb_Mo_findSteps 159 = .ok (.goto (-97), 3) := by decide +kernel
theorem d_Mo_findSteps_162 : decode zb_Mo_findSteps 162 = .ok (.iinc 3 1, 3) := by decide +kernel
theorem d_Mo_findSteps_165 : decode zb_Mo_findSteps 165 = .ok (.goto (-111), 3) := by decide +kernel
theorem d_Mo_findSteps_168 : decode zb_Mo_findSteps 168 = .ok (.return_, 1) := by decide +kernel
def k_Mo_findSteps_62 (kf_54 : Int32 → Int32 → Int32 → zsM → Option (zsM)) : Nat → Int32 → Int32 → Int32 → Int32 → zsM → Option (zsM)
  | 0, _, _, _, _, _ => none
  | fu + 1, l1, l2, l3, l4, x => (if l4 < (4 : Int32) then (if zOut l3 100 then none else (k_Mo_beside ((((x.2 32)) l3.toNatClampNeg)) l4).bind fun o5 => (if o5 < 0 then k_Mo_findSteps_62 kf_54 fu l1 l2 l3 ((l4 + (1 : Int32))) x else (if zOut o5 100 then none else (if (((x.2 31)) o5.toNatClampNeg) < 0 then (if zOut o5 100 then none else (if (((x.2 0)) o5.toNatClampNeg) = (1 : Int32) then k_Mo_findSteps_62 kf_54 fu l1 l2 l3 ((l4 + (1 : Int32))) x else (if zOut l1 8 then none else (k_Mo_isHeld x o5 ((((x.2 1)) l1.toNatClampNeg))).bind fun o9 => (if o9 = 0 then (if zOut l3 100 then none else (if zOut ((((x.2 32)) l3.toNatClampNeg)) 100 then none else (if zOut o5 100 then none else (if zOut l2 100 then none else k_Mo_findSteps_62 kf_54 fu l1 ((l2 + (1 : Int32))) l3 ((l4 + (1 : Int32))) ((x.1, (va_up ((va_up x.2 31 (upd ((x.2 31)) o5.toNatClampNeg (((((x.2 31)) ((((x.2 32)) l3.toNatClampNeg)).toNatClampNeg) + (1 : Int32)))))) 32 (upd ((x.2 32)) l2.toNatClampNeg o5)))))))) else k_Mo_findSteps_62 kf_54 fu l1 l2 l3 ((l4 + (1 : Int32))) x)))) else k_Mo_findSteps_62 kf_54 fu l1 l2 l3 ((l4 + (1 : Int32))) x)))) else kf_54 l1 l2 ((l3 + (1 : Int32))) x)
set_option maxRecDepth 20000 in
theorem w_Mo_findSteps_62 {X : zX} {c : zY} {q : Nat → Nat} {out : zsM} {kf_54 : Int32 → Int32 → Int32 → zsM → Option (zsM)} (hX : Ok X zr_Mo zb_Mo_findSteps 6 2 c) (hR : Rt X none none (zwM c q out)) (hk_54 : ∀ (l1 : Int32) (l2 : Int32) (l3 : Int32) (x : zsM), kf_54 l1 l2 l3 x = some out → Go X (zwM c q x) [(0, .ref ((q 0))), (1, .int l1), (2, .int l2), (3, .int l3)] 54 []) : ∀ (fu : Nat) (l1 : Int32) (l2 : Int32) (l3 : Int32) (l4 : Int32) (x : zsM), k_Mo_findSteps_62 kf_54 fu l1 l2 l3 l4 x = some out → Go X (zwM c q x) [(0, .ref ((q 0))), (1, .int l1), (2, .int l2), (3, .int l3), (4, .int l4)] 62 [] := by
  intro fu
  induction fu with
  | zero => intro l1 l2 l3 l4 x h; rw [k_Mo_findSteps_62] at h; cases h
  | succ fu ih =>
    intro l1 l2 l3 l4 x h
    rw [k_Mo_findSteps_62] at h
    refine g_iload (pc := 62) hX d_Mo_findSteps_62 4 rfl ?_
    refine g_iconst (pc := 64) hX d_Mo_findSteps_64 zc_4 ?_
    refine g_icmp_ge (pc := 65) (tgt := 162) hX d_Mo_findSteps_65 (by decide) h (fun c4 h => ?_) (fun c4 h => ?_)
    · refine g_iinc (pc := 162) (q := 3) (L' := [(3, .int ((l3 + (1 : Int32)))), (0, .ref ((q 0))), (1, .int l1), (2, .int l2), (4, .int l4)]) hX d_Mo_findSteps_162 rfl zc_1 rfl rfl ?_
      refine g_goto (pc := 165) (tgt := 54) hX d_Mo_findSteps_165 (by decide) ?_
      refine g_ls (L' := [(0, .ref ((q 0))), (1, .int l1), (2, .int l2), (3, .int ((l3 + (1 : Int32))))]) [1, 2, 3, 0] rfl ?_
      exact hk_54 _ _ _ _ h
    · refine g_aload_n (pc := 68) hX d_Mo_findSteps_68 rfl 0 rfl ?_
      refine gf_Mo_59 (pc := 69) (v := .ref ((q 16))) hX 0 rfl rfl d_Mo_findSteps_69 ?_
      refine g_iload_n (pc := 72) hX d_Mo_findSteps_72 rfl 3 rfl ?_
      refine g_iald (pc := 73) (f := (x.2 32)) hX 16 rfl h d_Mo_findSteps_73 (fun h => ?_)
      refine g_iload (pc := 74) hX d_Mo_findSteps_74 4 rfl ?_
      obtain ⟨o5, e5, h⟩ := zbind h
      refine g_csI (pc := 76) (st := []) hX zk_Mo_beside zL_Mo_203 (c_Mo_beside c ((((x.2 32)) l3.toNatClampNeg)) l4 e5) rfl rfl rfl rfl rfl d_Mo_findSteps_76 ?_
      refine g_istore (pc := 79) (L' := [(5, .int o5), (0, .ref ((q 0))), (1, .int l1), (2, .int l2), (3, .int l3), (4, .int l4)]) hX d_Mo_findSteps_79 rfl rfl ?_
      refine g_iload (pc := 81) hX d_Mo_findSteps_81 0 rfl ?_
      refine g_if_lt (pc := 83) (tgt := 156) hX d_Mo_findSteps_83 (by decide) h (fun c6 h => ?_) (fun c6 h => ?_)
      · refine g_iinc (pc := 156) (q := 5) (L' := [(4, .int ((l4 + (1 : Int32)))), (5, .int o5), (0, .ref ((q 0))), (1, .int l1), (2, .int l2), (3, .int l3)]) hX d_Mo_findSteps_156 rfl zc_1 rfl rfl ?_
        refine g_goto (pc := 159) (tgt := 62) hX d_Mo_findSteps_159 (by decide) ?_
        refine g_ls (L' := [(0, .ref ((q 0))), (1, .int l1), (2, .int l2), (3, .int l3), (4, .int ((l4 + (1 : Int32))))]) [2, 3, 4, 5, 0] rfl ?_
        exact ih _ _ _ _ _ h
      · refine g_aload_n (pc := 86) hX d_Mo_findSteps_86 rfl 1 rfl ?_
        refine gf_Mo_56 (pc := 87) (v := .ref ((q 15))) hX 0 rfl rfl d_Mo_findSteps_87 ?_
        refine g_iload (pc := 90) hX d_Mo_findSteps_90 0 rfl ?_
        refine g_iald (pc := 92) (f := (x.2 31)) hX 15 rfl h d_Mo_findSteps_92 (fun h => ?_)
        refine g_if_ge (pc := 93) (tgt := 156) hX d_Mo_findSteps_93 (by decide) h (fun c7 h => ?_) (fun c7 h => ?_)
        · refine g_iinc (pc := 156) (q := 5) (L' := [(4, .int ((l4 + (1 : Int32)))), (5, .int o5), (0, .ref ((q 0))), (1, .int l1), (2, .int l2), (3, .int l3)]) hX d_Mo_findSteps_156 rfl zc_1 rfl rfl ?_
          refine g_goto (pc := 159) (tgt := 62) hX d_Mo_findSteps_159 (by decide) ?_
          refine g_ls (L' := [(0, .ref ((q 0))), (1, .int l1), (2, .int l2), (3, .int l3), (4, .int ((l4 + (1 : Int32))))]) [2, 3, 4, 5, 0] rfl ?_
          exact ih _ _ _ _ _ h
        · refine g_aload_n (pc := 96) hX d_Mo_findSteps_96 rfl 1 rfl ?_
          refine gf_Mo_7 (pc := 97) (v := .ref ((q 1))) hX 0 rfl rfl d_Mo_findSteps_97 ?_
          refine g_iload (pc := 100) hX d_Mo_findSteps_100 0 rfl ?_
          refine g_iald (pc := 102) (f := (x.2 0)) hX 1 rfl h d_Mo_findSteps_102 (fun h => ?_)
          refine g_iconst (pc := 103) hX d_Mo_findSteps_103 zc_1 ?_
          refine g_icmp_eq (pc := 104) (tgt := 156) hX d_Mo_findSteps_104 (by decide) h (fun c8 h => ?_) (fun c8 h => ?_)
          · refine g_iinc (pc := 156) (q := 5) (L' := [(4, .int ((l4 + (1 : Int32)))), (5, .int o5), (0, .ref ((q 0))), (1, .int l1), (2, .int l2), (3, .int l3)]) hX d_Mo_findSteps_156 rfl zc_1 rfl rfl ?_
            refine g_goto (pc := 159) (tgt := 62) hX d_Mo_findSteps_159 (by decide) ?_
            refine g_ls (L' := [(0, .ref ((q 0))), (1, .int l1), (2, .int l2), (3, .int l3), (4, .int ((l4 + (1 : Int32))))]) [2, 3, 4, 5, 0] rfl ?_
            exact ih _ _ _ _ _ h
          · refine g_aload_n (pc := 107) hX d_Mo_findSteps_107 rfl 1 rfl ?_
            refine g_iload (pc := 108) hX d_Mo_findSteps_108 0 rfl ?_
            refine g_aload_n (pc := 110) hX d_Mo_findSteps_110 rfl 1 rfl ?_
            refine gf_Mo_13 (pc := 111) (v := .ref ((q 2))) hX 0 rfl rfl d_Mo_findSteps_111 ?_
            refine g_iload_n (pc := 114) hX d_Mo_findSteps_114 rfl 2 rfl ?_
            refine g_iald (pc := 115) (f := (x.2 1)) hX 2 rfl h d_Mo_findSteps_115 (fun h => ?_)
            obtain ⟨o9, e9, h⟩ := zbind h
            refine g_cvI (pc := 116) (w1 := []) (w2 := []) (st := []) (w' := (zwM c q x)) hX zk_Mo_isHeld zs_Mo_isHeld zL_Mo_206 (c_Mo_isHeld c q x o5 ((((x.2 1)) l1.toNatClampNeg)) e9) rfl rfl rfl rfl (zself _) (zself _).symm 0 10 rfl rfl rfl d_Mo_findSteps_116 ?_
            refine g_if_eq (pc := 119) (tgt := 125) hX d_Mo_findSteps_119 (by decide) h (fun c10 h => ?_) (fun c10 h => ?_)
            · refine g_aload_n (pc := 125) hX d_Mo_findSteps_125 rfl 1 rfl ?_
              refine gf_Mo_56 (pc := 126) (v := .ref ((q 15))) hX 0 rfl rfl d_Mo_findSteps_126 ?_
              refine g_iload (pc := 129) hX d_Mo_findSteps_129 0 rfl ?_
              refine g_aload_n (pc := 131) hX d_Mo_findSteps_131 rfl 1 rfl ?_
              refine gf_Mo_56 (pc := 132) (v := .ref ((q 15))) hX 0 rfl rfl d_Mo_findSteps_132 ?_
              refine g_aload_n (pc := 135) hX d_Mo_findSteps_135 rfl 1 rfl ?_
              refine gf_Mo_59 (pc := 136) (v := .ref ((q 16))) hX 0 rfl rfl d_Mo_findSteps_136 ?_
              refine g_iload_n (pc := 139) hX d_Mo_findSteps_139 rfl 4 rfl ?_
              refine g_iald (pc := 140) (f := (x.2 32)) hX 16 rfl h d_Mo_findSteps_140 (fun h => ?_)
              refine g_iald (pc := 141) (f := (x.2 31)) hX 15 rfl h d_Mo_findSteps_141 (fun h => ?_)
              refine g_iconst (pc := 142) hX d_Mo_findSteps_142 zc_1 ?_
              refine g_iadd (pc := 143) hX d_Mo_findSteps_143 ?_
              refine g_iast (pc := 144) (f := (x.2 31)) (w' := (zwM c q ((x.1, (va_up x.2 31 (upd ((x.2 31)) o5.toNatClampNeg (((((x.2 31)) ((((x.2 32)) l3.toNatClampNeg)).toNatClampNeg) + (1 : Int32))))))))) hX 15 rfl h (sa_Mo_15 c q x (upd ((x.2 31)) o5.toNatClampNeg (((((x.2 31)) ((((x.2 32)) l3.toNatClampNeg)).toNatClampNeg) + (1 : Int32))))) d_Mo_findSteps_144 (fun h => ?_)
              refine g_aload_n (pc := 145) hX d_Mo_findSteps_145 rfl 1 rfl ?_
              refine gf_Mo_59 (pc := 146) (v := .ref ((q 16))) hX 0 rfl rfl d_Mo_findSteps_146 ?_
              refine g_iload_n (pc := 149) hX d_Mo_findSteps_149 rfl 3 rfl ?_
              refine g_iload (pc := 150) hX d_Mo_findSteps_150 0 rfl ?_
              refine g_iast (pc := 152) (f := (x.2 32)) (w' := (zwM c q ((x.1, (va_up ((va_up x.2 31 (upd ((x.2 31)) o5.toNatClampNeg (((((x.2 31)) ((((x.2 32)) l3.toNatClampNeg)).toNatClampNeg) + (1 : Int32)))))) 32 (upd ((x.2 32)) l2.toNatClampNeg o5)))))) hX 16 rfl h (sa_Mo_16 c q ((x.1, (va_up x.2 31 (upd ((x.2 31)) o5.toNatClampNeg (((((x.2 31)) ((((x.2 32)) l3.toNatClampNeg)).toNatClampNeg) + (1 : Int32))))))) (upd ((x.2 32)) l2.toNatClampNeg o5)) d_Mo_findSteps_152 (fun h => ?_)
              refine g_iinc (pc := 153) (q := 3) (L' := [(2, .int ((l2 + (1 : Int32)))), (5, .int o5), (0, .ref ((q 0))), (1, .int l1), (3, .int l3), (4, .int l4)]) hX d_Mo_findSteps_153 rfl zc_1 rfl rfl ?_
              refine g_iinc (pc := 156) (q := 5) (L' := [(4, .int ((l4 + (1 : Int32)))), (2, .int ((l2 + (1 : Int32)))), (5, .int o5), (0, .ref ((q 0))), (1, .int l1), (3, .int l3)]) hX d_Mo_findSteps_156 rfl zc_1 rfl rfl ?_
              refine g_goto (pc := 159) (tgt := 62) hX d_Mo_findSteps_159 (by decide) ?_
              refine g_ls (L' := [(0, .ref ((q 0))), (1, .int l1), (2, .int ((l2 + (1 : Int32)))), (3, .int l3), (4, .int ((l4 + (1 : Int32))))]) [3, 4, 1, 5, 0] rfl ?_
              exact ih _ _ _ _ _ h
            · refine g_goto (pc := 122) (tgt := 156) hX d_Mo_findSteps_122 (by decide) ?_
              refine g_iinc (pc := 156) (q := 5) (L' := [(4, .int ((l4 + (1 : Int32)))), (5, .int o5), (0, .ref ((q 0))), (1, .int l1), (2, .int l2), (3, .int l3)]) hX d_Mo_findSteps_156 rfl zc_1 rfl rfl ?_
              refine g_goto (pc := 159) (tgt := 62) hX d_Mo_findSteps_159 (by decide) ?_
              refine g_ls (L' := [(0, .ref ((q 0))), (1, .int l1), (2, .int l2), (3, .int l3), (4, .int ((l4 + (1 : Int32))))]) [2, 3, 4, 5, 0] rfl ?_
              exact ih _ _ _ _ _ h
def k_Mo_findSteps_54 : Nat → Int32 → Int32 → Int32 → zsM → Option (zsM)
  | 0, _, _, _, _ => none
  | fu + 1, l1, l2, l3, x => (if l3 < l2 then k_Mo_findSteps_62 (k_Mo_findSteps_54 fu) zFu l1 l2 l3 ((0 : Int32)) x else some x)
set_option maxRecDepth 20000 in
theorem w_Mo_findSteps_54 {X : zX} {c : zY} {q : Nat → Nat} {out : zsM} (hX : Ok X zr_Mo zb_Mo_findSteps 6 2 c) (hR : Rt X none none (zwM c q out)) : ∀ (fu : Nat) (l1 : Int32) (l2 : Int32) (l3 : Int32) (x : zsM), k_Mo_findSteps_54 fu l1 l2 l3 x = some out → Go X (zwM c q x) [(0, .ref ((q 0))), (1, .int l1), (2, .int l2), (3, .int l3)] 54 [] := by
  intro fu
  induction fu with
  | zero => intro l1 l2 l3 x h; rw [k_Mo_findSteps_54] at h; cases h
  | succ fu ih =>
    intro l1 l2 l3 x h
    rw [k_Mo_findSteps_54] at h
    refine g_iload_n (pc := 54) hX d_Mo_findSteps_54 rfl 3 rfl ?_
    refine g_iload_n (pc := 55) hX d_Mo_findSteps_55 rfl 2 rfl ?_
    refine g_icmp_ge (pc := 56) (tgt := 168) hX d_Mo_findSteps_56 (by decide) h (fun c3 h => ?_) (fun c3 h => ?_)
    · obtain rfl := Option.some.inj h
      exact g_vret (pc := 168) hX hR d_Mo_findSteps_168
    · refine g_iconst (pc := 59) hX d_Mo_findSteps_59 zc_0 ?_
      refine g_istore (pc := 60) (L' := [(4, .int ((0 : Int32))), (0, .ref ((q 0))), (1, .int l1), (2, .int l2), (3, .int l3)]) hX d_Mo_findSteps_60 rfl rfl ?_
      refine g_ls (L' := [(0, .ref ((q 0))), (1, .int l1), (2, .int l2), (3, .int l3), (4, .int ((0 : Int32)))]) [1, 2, 3, 4, 0] rfl ?_
      exact w_Mo_findSteps_62 hX hR ih _ _ _ _ _ _ h
def k_Mo_findSteps_7 : Nat → Int32 → Int32 → zsM → Option (zsM)
  | 0, _, _, _ => none
  | fu + 1, l1, l2, x => (if l2 < (100 : Int32) then (if zOut l2 100 then none else k_Mo_findSteps_7 fu l1 ((l2 + (1 : Int32))) ((x.1, (va_up x.2 31 (upd ((x.2 31)) l2.toNatClampNeg ((-1 : Int32))))))) else (if zOut l1 8 then none else (if zOut ((((x.2 2)) l1.toNatClampNeg)) 100 then none else (if zOut l1 8 then none else (if zOut ((0 : Int32)) 100 then none else k_Mo_findSteps_54 zFu l1 ((1 : Int32)) ((0 : Int32)) ((x.1, (va_up ((va_up x.2 31 (upd ((x.2 31)) ((((x.2 2)) l1.toNatClampNeg)).toNatClampNeg ((0 : Int32))))) 32 (upd ((x.2 32)) ((0 : Int32)).toNatClampNeg ((((x.2 2)) l1.toNatClampNeg)))))))))))
set_option maxRecDepth 20000 in
theorem w_Mo_findSteps_7 {X : zX} {c : zY} {q : Nat → Nat} {out : zsM} (hX : Ok X zr_Mo zb_Mo_findSteps 6 2 c) (hR : Rt X none none (zwM c q out)) : ∀ (fu : Nat) (l1 : Int32) (l2 : Int32) (x : zsM), k_Mo_findSteps_7 fu l1 l2 x = some out → Go X (zwM c q x) [(0, .ref ((q 0))), (1, .int l1), (2, .int l2)] 7 [] := by
  intro fu
  induction fu with
  | zero => intro l1 l2 x h; rw [k_Mo_findSteps_7] at h; cases h
  | succ fu ih =>
    intro l1 l2 x h
    rw [k_Mo_findSteps_7] at h
    refine g_iload_n (pc := 7) hX d_Mo_findSteps_7 rfl 2 rfl ?_
    refine g_bipush (pc := 8) hX d_Mo_findSteps_8 ze_100 ?_
    refine g_icmp_ge (pc := 10) (tgt := 26) hX d_Mo_findSteps_10 (by decide) h (fun c2 h => ?_) (fun c2 h => ?_)
    · refine g_aload_n (pc := 26) hX d_Mo_findSteps_26 rfl 0 rfl ?_
      refine gf_Mo_56 (pc := 27) (v := .ref ((q 15))) hX 0 rfl rfl d_Mo_findSteps_27 ?_
      refine g_aload_n (pc := 30) hX d_Mo_findSteps_30 rfl 0 rfl ?_
      refine gf_Mo_16 (pc := 31) (v := .ref ((q 3))) hX 0 rfl rfl d_Mo_findSteps_31 ?_
      refine g_iload_n (pc := 34) hX d_Mo_findSteps_34 rfl 1 rfl ?_
      refine g_iald (pc := 35) (f := (x.2 2)) hX 3 rfl h d_Mo_findSteps_35 (fun h => ?_)
      refine g_iconst (pc := 36) hX d_Mo_findSteps_36 zc_0 ?_
      refine g_iast (pc := 37) (f := (x.2 31)) (w' := (zwM c q ((x.1, (va_up x.2 31 (upd ((x.2 31)) ((((x.2 2)) l1.toNatClampNeg)).toNatClampNeg ((0 : Int32)))))))) hX 15 rfl h (sa_Mo_15 c q x (upd ((x.2 31)) ((((x.2 2)) l1.toNatClampNeg)).toNatClampNeg ((0 : Int32)))) d_Mo_findSteps_37 (fun h => ?_)
      refine g_aload_n (pc := 38) hX d_Mo_findSteps_38 rfl 0 rfl ?_
      refine gf_Mo_59 (pc := 39) (v := .ref ((q 16))) hX 0 rfl rfl d_Mo_findSteps_39 ?_
      refine g_iconst (pc := 42) hX d_Mo_findSteps_42 zc_0 ?_
      refine g_aload_n (pc := 43) hX d_Mo_findSteps_43 rfl 0 rfl ?_
      refine gf_Mo_16 (pc := 44) (v := .ref ((q 3))) hX 0 rfl rfl d_Mo_findSteps_44 ?_
      refine g_iload_n (pc := 47) hX d_Mo_findSteps_47 rfl 1 rfl ?_
      refine g_iald (pc := 48) (f := (x.2 2)) hX 3 rfl h d_Mo_findSteps_48 (fun h => ?_)
      refine g_iast (pc := 49) (f := (x.2 32)) (w' := (zwM c q ((x.1, (va_up ((va_up x.2 31 (upd ((x.2 31)) ((((x.2 2)) l1.toNatClampNeg)).toNatClampNeg ((0 : Int32))))) 32 (upd ((x.2 32)) ((0 : Int32)).toNatClampNeg ((((x.2 2)) l1.toNatClampNeg)))))))) hX 16 rfl h (sa_Mo_16 c q ((x.1, (va_up x.2 31 (upd ((x.2 31)) ((((x.2 2)) l1.toNatClampNeg)).toNatClampNeg ((0 : Int32)))))) (upd ((x.2 32)) ((0 : Int32)).toNatClampNeg ((((x.2 2)) l1.toNatClampNeg)))) d_Mo_findSteps_49 (fun h => ?_)
      refine g_iconst (pc := 50) hX d_Mo_findSteps_50 zc_1 ?_
      refine g_istore_n (pc := 51) (L' := [(2, .int ((1 : Int32))), (0, .ref ((q 0))), (1, .int l1)]) hX d_Mo_findSteps_51 rfl rfl rfl ?_
      refine g_iconst (pc := 52) hX d_Mo_findSteps_52 zc_0 ?_
      refine g_istore_n (pc := 53) (L' := [(3, .int ((0 : Int32))), (2, .int ((1 : Int32))), (0, .ref ((q 0))), (1, .int l1)]) hX d_Mo_findSteps_53 rfl rfl rfl ?_
      refine g_ls (L' := [(0, .ref ((q 0))), (1, .int l1), (2, .int ((1 : Int32))), (3, .int ((0 : Int32)))]) [2, 3, 1, 0] rfl ?_
      exact w_Mo_findSteps_54 hX hR _ _ _ _ _ h
    · refine g_aload_n (pc := 13) hX d_Mo_findSteps_13 rfl 0 rfl ?_
      refine gf_Mo_56 (pc := 14) (v := .ref ((q 15))) hX 0 rfl rfl d_Mo_findSteps_14 ?_
      refine g_iload_n (pc := 17) hX d_Mo_findSteps_17 rfl 2 rfl ?_
      refine g_iconst (pc := 18) hX d_Mo_findSteps_18 zc_m1 ?_
      refine g_iast (pc := 19) (f := (x.2 31)) (w' := (zwM c q ((x.1, (va_up x.2 31 (upd ((x.2 31)) l2.toNatClampNeg ((-1 : Int32)))))))) hX 15 rfl h (sa_Mo_15 c q x (upd ((x.2 31)) l2.toNatClampNeg ((-1 : Int32)))) d_Mo_findSteps_19 (fun h => ?_)
      refine g_iinc (pc := 20) (q := 2) (L' := [(2, .int ((l2 + (1 : Int32)))), (0, .ref ((q 0))), (1, .int l1)]) hX d_Mo_findSteps_20 rfl zc_1 rfl rfl ?_
      refine g_goto (pc := 23) (tgt := 7) hX d_Mo_findSteps_23 (by decide) ?_
      refine g_ls (L' := [(0, .ref ((q 0))), (1, .int l1), (2, .int ((l2 + (1 : Int32))))]) [1, 2, 0] rfl ?_
      exact ih _ _ _ h
def k_Mo_findSteps (x : zsM) : Option (zsM) := (k_Mo_current x).bind fun o1 => k_Mo_findSteps_7 zFu o1 ((0 : Int32)) x
set_option maxRecDepth 20000 in
theorem c_Mo_findSteps (c : zY) (q : Nat → Nat) (x : zsM) {out : zsM} (h : k_Mo_findSteps x = some out) : KM zy_Mo_findSteps zb_Mo_findSteps 6 none 2 c [.ref ((q 0))] (zwM c q x) (zwM c q out) none := zK_of zp_Mo rfl (Nat.le_of_ble_eq_true rfl) (zq_Mo c q _ _) (fun X hX hR => by
  show Go X (zwM c q x) [(0, .ref ((q 0)))] 0 []
  rw [k_Mo_findSteps] at h
  refine g_aload_n (pc := 0) hX d_Mo_findSteps_0 rfl 0 rfl ?_
  obtain ⟨o1, e1, h⟩ := zbind h
  refine g_cvI (pc := 1) (w1 := []) (w2 := []) (st := []) (w' := (zwM c q x)) hX zk_Mo_current zs_Mo_current zL_Mo_136 (c_Mo_current c q x e1) rfl rfl rfl rfl (zself _) (zself _).symm 0 10 rfl rfl rfl d_Mo_findSteps_1 ?_
  refine g_istore_n (pc := 4) (L' := [(1, .int o1), (0, .ref ((q 0)))]) hX d_Mo_findSteps_4 rfl rfl rfl ?_
  refine g_iconst (pc := 5) hX d_Mo_findSteps_5 zc_0 ?_
  refine g_istore_n (pc := 6) (L' := [(2, .int ((0 : Int32))), (1, .int o1), (0, .ref ((q 0)))]) hX d_Mo_findSteps_6 rfl rfl rfl ?_
  refine g_ls (L' := [(0, .ref ((q 0))), (1, .int o1), (2, .int ((0 : Int32)))]) [2, 1, 0] rfl ?_
  exact w_Mo_findSteps_7 hX hR _ _ _ _ h)
theorem d_Mo_left_0 : decode zb_Mo_left 0 = .ok (.aload_n 0, 1) := by decide +kernel
theorem d_Mo_left_1 : decode zb_Mo_left 1 = .ok (.invokevirtual 136, 3) := by decide +kernel
theorem d_Mo_left_4 : decode zb_Mo_left 4 = .ok (.istore_n 1, 1) := by decide +kernel
theorem d_Mo_left_5 : decode zb_Mo_left 5 = .ok (.aload_n 0, 1) := by decide +kernel
theorem d_Mo_left_6 : decode zb_Mo_left 6 = .ok (.iload_n 1, 1) := by decide +kernel
theorem d_Mo_left_7 : decode zb_Mo_left 7 = .ok (.iconst 3, 1) := by decide +kernel
theorem d_Mo_left_8 : decode zb_Mo_left 8 = .ok (.invokevirtual 114, 3) := by decide +kernel
theorem d_Mo_left_11 : decode zb_Mo_left 11 = .ok (.ifCond .le 7, 3) := by decide +kernel
theorem d_Mo_left_14 : decode zb_Mo_left 14 = .ok (.iconst 2, 1) := by decide +kernel
theorem d_Mo_left_15 : decode zb_Mo_left 15 = .ok (.goto 4, 3) := by decide +kernel
theorem d_Mo_left_18 : decode zb_Mo_left 18 = .ok (.iconst 1, 1) := by decide +kernel
theorem d_Mo_left_19 : decode zb_Mo_left 19 = .ok (.aload_n 0, 1) := by decide +kernel
theorem d_Mo_left_20 : decode zb_Mo_left 20 = .ok (.getfield 28, 3) := by decide +kernel
theorem d_Mo_left_23 : decode zb_Mo_left 23 = .ok (.iload_n 1, 1) := by decide +kernel
theorem d_Mo_left_24 : decode zb_Mo_left 24 = .ok (.iaload, 1) := by decide +kernel
theorem d_Mo_left_25 : decode zb_Mo_left 25 = .ok (.imul, 1) := by decide +kernel
theorem d_Mo_left_26 : decode zb_Mo_left 26 = .ok (.aload_n 0, 1) := by decide +kernel
theorem d_Mo_left_27 : decode zb_Mo_left 27 = .ok (.getfield 140, 3) := by decide +kernel
theorem d_Mo_left_30 : decode zb_Mo_left 30 = .ok (.isub, 1) := by decide +kernel
theorem d_Mo_left_31 : decode zb_Mo_left 31 = .ok (.istore_n 2, 1) := by decide +kernel
theorem d_Mo_left_32 : decode zb_Mo_left 32 = .ok (.iload_n 2, 1) := by decide +kernel
theorem d_Mo_left_33 : decode zb_Mo_left 33 = .ok (.ifCond .ge 7, 3) := by decide +kernel
theorem d_Mo_left_36 : decode zb_Mo_left 36 = .ok (.iconst 0, 1) := by decide +kernel
theorem d_Mo_left_37 : decode zb_Mo_left 37 = .ok (.goto 4, 3) := by decide +kernel
theorem d_Mo_left_40 : decode zb_Mo_left 40 = .ok (.iload_n 2, 1) := by decide +kernel
theorem d_Mo_left_41 : decode zb_Mo_left 41 = .ok (.ireturn, 1) := by decide +kernel
def k_Mo_left_19 (x : zsM) (l1 : Int32) (s0 : Int32) : Option (Int32) := (if zOut l1 8 then none else (if ((s0 * (((x.2 6)) l1.toNatClampNeg)) - (x.1 23)) < 0 then some ((0 : Int32)) else some (((s0 * (((x.2 6)) l1.toNatClampNeg)) - (x.1 23)))))
set_option maxRecDepth 20000 in
theorem w_Mo_left_19 {X : zX} {c : zY} {q : Nat → Nat} {x : zsM} {out : Int32} (hX : Ok X zr_Mo zb_Mo_left 3 2 c) (hR : Rt X (some .int) (some (.int out)) (zwM c q x)) : ∀ (l1 : Int32) (s0 : Int32), k_Mo_left_19 x l1 s0 = some out → Go X (zwM c q x) [(0, .ref ((q 0))), (1, .int l1)] 19 [.int s0] := by
  intro l1 s0 h
  rw [k_Mo_left_19] at h
  refine g_aload_n (pc := 19) hX d_Mo_left_19 rfl 0 rfl ?_
  refine gf_Mo_28 (pc := 20) (v := .ref ((q 7))) hX 0 rfl rfl d_Mo_left_20 ?_
  refine g_iload_n (pc := 23) hX d_Mo_left_23 rfl 1 rfl ?_
  refine g_iald (pc := 24) (f := (x.2 6)) hX 7 rfl h d_Mo_left_24 (fun h => ?_)
  refine g_imul (pc := 25) hX d_Mo_left_25 ?_
  refine g_aload_n (pc := 26) hX d_Mo_left_26 rfl 0 rfl ?_
  refine gf_Mo_140 (pc := 27) (v := .int ((x.1 23))) hX 0 rfl rfl d_Mo_left_27 ?_
  refine g_isub (pc := 30) hX d_Mo_left_30 ?_
  refine g_istore_n (pc := 31) (L' := [(2, .int (((s0 * (((x.2 6)) l1.toNatClampNeg)) - (x.1 23)))), (0, .ref ((q 0))), (1, .int l1)]) hX d_Mo_left_31 rfl rfl rfl ?_
  refine g_iload_n (pc := 32) hX d_Mo_left_32 rfl 0 rfl ?_
  refine g_if_ge (pc := 33) (tgt := 40) hX d_Mo_left_33 (by decide) h (fun c4 h => ?_) (fun c4 h => ?_)
  · refine g_iload_n (pc := 40) hX d_Mo_left_40 rfl 0 rfl ?_
    obtain rfl := Option.some.inj h
    exact g_iret (pc := 41) hX hR d_Mo_left_41
  · refine g_iconst (pc := 36) hX d_Mo_left_36 zc_0 ?_
    refine g_goto (pc := 37) (tgt := 41) hX d_Mo_left_37 (by decide) ?_
    obtain rfl := Option.some.inj h
    exact g_iret (pc := 41) hX hR d_Mo_left_41
def k_Mo_left (x : zsM) : Option (Int32) := (k_Mo_current x).bind fun o1 => (k_Mo_sumOf x o1 ((3 : Int32))).bind fun o2 => (if 0 < o2 then k_Mo_left_19 x o1 ((2 : Int32)) else k_Mo_left_19 x o1 ((1 : Int32)))
set_option maxRecDepth 20000 in
theorem c_Mo_left (c : zY) (q : Nat → Nat) (x : zsM) {out : Int32} (h : k_Mo_left x = some out) : KM zy_Mo_left zb_Mo_left 3 (some .int) 2 c [.ref ((q 0))] (zwM c q x) (zwM c q x) (some (.int out)) := zK_of zp_Mo rfl (Nat.le_of_ble_eq_true rfl) (zq_Mo c q _ _) (fun X hX hR => by
  show Go X (zwM c q x) [(0, .ref ((q 0)))] 0 []
  rw [k_Mo_left] at h
  refine g_aload_n (pc := 0) hX d_Mo_left_0 rfl 0 rfl ?_
  obtain ⟨o1, e1, h⟩ := zbind h
  refine g_cvI (pc := 1) (w1 := []) (w2 := []) (st := []) (w' := (zwM c q x)) hX zk_Mo_current zs_Mo_current zL_Mo_136 (c_Mo_current c q x e1) rfl rfl rfl rfl (zself _) (zself _).symm 0 10 rfl rfl rfl d_Mo_left_1 ?_
  refine g_istore_n (pc := 4) (L' := [(1, .int o1), (0, .ref ((q 0)))]) hX d_Mo_left_4 rfl rfl rfl ?_
  refine g_aload_n (pc := 5) hX d_Mo_left_5 rfl 1 rfl ?_
  refine g_iload_n (pc := 6) hX d_Mo_left_6 rfl 0 rfl ?_
  refine g_iconst (pc := 7) hX d_Mo_left_7 zc_3 ?_
  obtain ⟨o2, e2, h⟩ := zbind h
  refine g_cvI (pc := 8) (w1 := []) (w2 := []) (st := []) (w' := (zwM c q x)) hX zk_Mo_sumOf zs_Mo_sumOf zL_Mo_114 (c_Mo_sumOf c q x o1 ((3 : Int32)) e2) rfl rfl rfl rfl (zself _) (zself _).symm 0 10 rfl rfl rfl d_Mo_left_8 ?_
  refine g_if_le (pc := 11) (tgt := 18) hX d_Mo_left_11 (by decide) h (fun c3 h => ?_) (fun c3 h => ?_)
  · refine g_iconst (pc := 18) hX d_Mo_left_18 zc_1 ?_
    refine g_ls (L' := [(0, .ref ((q 0))), (1, .int o1)]) [1, 0] rfl ?_
    exact w_Mo_left_19 hX hR _ _ h
  · refine g_iconst (pc := 14) hX d_Mo_left_14 zc_2 ?_
    refine g_goto (pc := 15) (tgt := 19) hX d_Mo_left_15 (by decide) ?_
    refine g_ls (L' := [(0, .ref ((q 0))), (1, .int o1)]) [1, 0] rfl ?_
    exact w_Mo_left_19 hX hR _ _ h)
theorem d_Mo_move_0 : decode zb_Mo_move 0 = .ok (.iload_n 1, 1) := by decide +kernel
theorem d_Mo_move_1 : decode zb_Mo_move 1 = .ok (.invokestatic 166, 3) := by decide +kernel
theorem d_Mo_move_4 : decode zb_Mo_move 4 = .ok (.ifCond .ne 5, 3) := by decide +kernel
theorem d_Mo_move_7 : decode zb_Mo_move 7 = .ok (.iconst (-1), 1) := by decide +kernel
theorem d_Mo_move_8 : decode zb_Mo_move 8 = .ok (.ireturn, 1) := by decide +kernel
theorem d_Mo_move_9 : decode zb_Mo_move 9 = .ok (.aload_n 0, 1) := by decide +kernel
theorem d_Mo_move_10 : decode zb_Mo_move 10 = .ok (.getfield 181, 3) := by decide +kernel
theorem d_Mo_move_13 : decode zb_Mo_move 13 = .ok (.ifCond .ne 9, 3) := by decide +kernel
theorem d_Mo_move_16 : decode zb_Mo_move 16 = .ok (.aload_n 0, 1) := by decide +kernel
theorem d_Mo_move_17 : decode zb_Mo_move 17 = .ok (.iconst 1, 1) := by decide +kernel
theorem d_Mo_move_18 : decode zb_Mo_move 18 = .ok (.invokevirtual 172, 3) := by decide +kernel
theorem d_Mo_move_21 : decode zb_Mo_move 21 = .ok (.ireturn, 1) := by decide +kernel
theorem d_Mo_move_22 : decode zb_Mo_move 22 = .ok (.aload_n 0, 1) := by decide +kernel
theorem d_Mo_move_23 : decode zb_Mo_move 23 = .ok (.invokevirtual 136, 3) := by decide +kernel
theorem d_Mo_move_26 : decode zb_Mo_move 26 = .ok (.istore_n 2, 1) := by decide +kernel
theorem d_Mo_move_27 : decode zb_Mo_move 27 = .ok (.aload_n 0, 1) := by decide +kernel
theorem d_Mo_move_28 : decode zb_Mo_move 28 = .ok (.iload_n 2, 1) := by decide +kernel
theorem d_Mo_move_29 : decode zb_Mo_move 29 = .ok (.invokevirtual 197, 3) := by decide +kernel
theorem d_Mo_move_32 : decode zb_Mo_move 32 = .ok (.ifCond .ne 9, 3) := by decide +kernel
theorem d_Mo_move_35 : decode zb_Mo_move 35 = .ok (.aload_n 0, 1) := by decide +kernel
theorem d_Mo_move_36 : decode zb_Mo_move 36 = .ok (.iconst 3, 1) := by decide +kernel
theorem d_Mo_move_37 : decode zb_Mo_move 37 = .ok (.invokevirtual 172, 3) := by decide +kernel
theorem d_Mo_move_40 : decode zb_Mo_move 40 = .ok (.ireturn, 1) := by decide +kernel
theorem d_Mo_move_41 : decode zb_Mo_move 41 = .ok (.aload_n 0, 1) := by decide +kernel
theorem d_Mo_move_42 : decode zb_Mo_move 42 = .ok (.iload_n 1, 1) := by decide +kernel
theorem d_Mo_move_43 : decode zb_Mo_move 43 = .ok (.invokevirtual 169, 3) := by decide +kernel
theorem d_Mo_move_46 : decode zb_Mo_move 46 = .ok (.ifCond .ne 9, 3) := by decide +kernel
theorem d_Mo_move_49 : decode zb_Mo_move 49 = .ok (.aload_n 0, 1) := by decide +kernel
theorem d_Mo_move_50 : decode zb_Mo_move 50 = .ok (.iconst 5, 1) := by decide +kernel
theorem d_Mo_move_51 : decode zb_Mo_move 51 = .ok (.invokevirtual 172, 3) := by decide +kernel
theorem d_Mo_move_54 : decode zb_Mo_move 54 = .ok (.ireturn, 1) := by decide +kernel
theorem d_Mo_move_55 : decode zb_Mo_move 55 = .ok (.aload_n 0, 1) := by decide +kernel
theorem d_Mo_move_56 : decode zb_Mo_move 56 = .ok (.invokevirtual 209, 3) := by decide +kernel
theorem d_Mo_move_59 : decode zb_Mo_move 59 = .ok (.aload_n 0, 1) := by decide +kernel
theorem d_Mo_move_60 : decode zb_Mo_move 60 = .ok (.getfield 56, 3) := by decide +kernel
theorem d_Mo_move_63 : decode zb_Mo_move 63 = .ok (.iload_n 1, 1) := by decide +kernel
theorem d_Mo_move_64 : decode zb_Mo_move 64 = .ok (.iaload, 1) := by decide +kernel
theorem d_Mo_move_65 : decode zb_Mo_move 65 = .ok (.ifCond .lt 16, 3) := by decide +kernel
theorem d_Mo_move_68 : decode zb_Mo_move 68 = .ok (.aload_n 0, 1) := by decide +kernel
theorem d_Mo_move_69 : decode zb_Mo_move 69 = .ok (.getfield 56, 3) := by decide +kernel
theorem d_Mo_move_72 : decode zb_Mo_move 72 = .ok (.iload_n 1, 1) := by decide +kernel
theorem d_Mo_move_73 : decode zb_Mo_move 73 = .ok (.iaload, 1) := by decide +kernel
theorem d_Mo_move_74 : decode zb_Mo_move 74 = .ok (.aload_n 0, 1) := by decide +kernel
theorem d_Mo_move_75 : decode zb_Mo_move 75 = .ok (.invokevirtual 212, 3) := by decide +kernel
theorem d_Mo_move_78 : decode zb_Mo_move 78 = .ok (.if_icmp .le 10, 3) := by decide +kernel
theorem d_Mo_move_81 : decode zb_Mo_move 81 = .ok (.aload_n 0, 1) := by decide +kernel
theorem d_Mo_move_82 : decode zb_Mo_move 82 = .ok (.bipush 6, 2) := by decide +kernel
theorem d_Mo_move_84 : decode zb_Mo_move 84 = .ok (.invokevirtual 172, 3) := by decide +kernel
theorem d_Mo_move_87 : decode zb_Mo_move 87 = .ok (.ireturn, 1) := by decide +kernel
theorem d_Mo_move_88 : decode zb_Mo_move 88 = .ok (.aload_n 0, 1) := by decide +kernel
theorem d_Mo_move_89 : decode zb_Mo_move 89 = .ok (.invokevirtual 175, 3) := by decide +kernel
theorem d_Mo_move_92 : decode zb_Mo_move 92 = .ok (.aload_n 0, 1) := by decide +kernel
theorem d_Mo_move_93 : decode zb_Mo_move 93 = .ok (.dup, 1) := by decide +kernel
theorem d_Mo_move_94 : decode zb_Mo_move 94 = .ok (.getfield 140, 3) := by decide +kernel
theorem d_Mo_move_97 : decode zb_Mo_move 97 = .ok (.aload_n 0, 1) := by decide +kernel
theorem d_Mo_move_98 : decode zb_Mo_move 98 = .ok (.getfield 56, 3) := by decide +kernel
theorem d_Mo_move_101 : decode zb_Mo_move 101 = .ok (.iload_n 1, 1) := by decide +kernel
theorem d_Mo_move_102 : decode zb_Mo_move 102 = .ok (.iaload, 1) := by decide +kernel
theorem d_Mo_move_103 : decode zb_Mo_move 103 = .ok (.iadd, 1) := by decide +kernel
theorem d_Mo_move_104 : decode zb_Mo_move 104 = .ok (.putfield 140, 3) := by decide +kernel
theorem d_Mo_move_107 : decode zb_Mo_move 107 = .ok (.aload_n 0, 1) := by decide +kernel
theorem d_Mo_move_108 : decode zb_Mo_move 108 = .ok (.getfield 16, 3) := by decide +kernel
theorem d_Mo_move_111 : decode zb_Mo_move 111 = .ok (.iload_n 2, 1) := by decide +kernel
theorem d_Mo_move_112 : decode zb_Mo_move 112 = .ok (.iload_n 1, 1) := by decide +kernel
theorem d_Mo_move_113 : decode zb_Mo_move 113 = .ok (.iastore, 1) := by decide +kernel
theorem d_Mo_move_114 : decode zb_Mo_move 114 = .ok (.aload_n 0, 1) := by decide +kernel
theorem d_Mo_move_115 : decode zb_Mo_move 115 = .ok (.bipush 7, 2) := by decide +kernel
theorem d_Mo_move_117 : decode zb_Mo_move 117 = .ok (.iload_n 2, 1) := by decide +kernel
theorem d_Mo_move_118 : decode zb_Mo_move 118 = .ok (.iload_n 1, 1) := by decide +kernel
theorem d_Mo_move_119 : decode zb_Mo_move 119 = .ok (.invokevirtual 102, 3) := by decide +kernel
theorem d_Mo_move_122 : decode zb_Mo_move 122 = .ok (.aload_n 0, 1) := by decide +kernel
theorem d_Mo_move_123 : decode zb_Mo_move 123 = .ok (.invokevirtual 212, 3) := by decide +kernel
theorem d_Mo_move_126 : decode zb_Mo_move 126 = .ok (.ireturn, 1) := by decide +kernel
def k_Mo_move (x : zsM) (l1 : Int32) : Option (Int32 × zsM) := (k_Mo_isCell l1).bind fun o1 => (if o1 = 0 then some ((-1 : Int32), x) else (if (x.1 19) = 0 then (k_Mo_refuses x ((1 : Int32))).bind fun o20 => some (o20.1, o20.2) else (k_Mo_current x).bind fun o4 => (k_Mo_canAct x o4).bind fun o5 => (if o5 = 0 then (k_Mo_refuses x ((3 : Int32))).bind fun o19 => some (o19.1, o19.2) else (k_Mo_isFree x l1).bind fun o7 => (if o7 = 0 then (k_Mo_refuses x ((5 : Int32))).bind fun o18 => some (o18.1, o18.2) else (k_Mo_findSteps x).bind fun o9 => (if zOut l1 100 then none else (if (((o9.2 31)) l1.toNatClampNeg) < 0 then (k_Mo_refuses o9 ((6 : Int32))).bind fun o11 => some (o11.1, o11.2) else (if zOut l1 100 then none else (k_Mo_left o9).bind fun o12 => (if o12 < (((o9.2 31)) l1.toNatClampNeg) then (k_Mo_refuses o9 ((6 : Int32))).bind fun o17 => some (o17.1, o17.2) else (k_Mo_remembers o9).bind fun o14 => (if zOut l1 100 then none else (if zOut o4 8 then none else (k_Mo_notes (((upd o14.1 23 (((o14.1 23) + (((o14.2 31)) l1.toNatClampNeg)))), (va_up o14.2 2 (upd ((o14.2 2)) o4.toNatClampNeg l1)))) ((7 : Int32)) o4 l1).bind fun o15 => (k_Mo_left o15).bind fun o16 => some (o16, o15)))))))))))
set_option maxRecDepth 20000 in
theorem c_Mo_move (c : zY) (q : Nat → Nat) (x : zsM) (l1 : Int32) {out : Int32 × zsM} (h : k_Mo_move x l1 = some out) : KM zy_Mo_move zb_Mo_move 3 (some .int) 4 c [.ref ((q 0)), .int l1] (zwM c q x) (zwM c q out.2) (some (.int out.1)) := zK_of zp_Mo rfl (Nat.le_of_ble_eq_true rfl) (zq_Mo c q _ _) (fun X hX hR => by
  show Go X (zwM c q x) [(0, .ref ((q 0))), (1, .int l1)] 0 []
  rw [k_Mo_move] at h
  refine g_iload_n (pc := 0) hX d_Mo_move_0 rfl 1 rfl ?_
  obtain ⟨o1, e1, h⟩ := zbind h
  refine g_csI (pc := 1) (st := []) hX zk_Mo_isCell zL_Mo_166 (c_Mo_isCell c l1 e1) rfl rfl rfl rfl rfl d_Mo_move_1 ?_
  refine g_if_ne (pc := 4) (tgt := 9) hX d_Mo_move_4 (by decide) h (fun c2 h => ?_) (fun c2 h => ?_)
  · refine g_aload_n (pc := 9) hX d_Mo_move_9 rfl 0 rfl ?_
    refine gf_Mo_181 (pc := 10) (v := .int ((x.1 19))) hX 0 rfl rfl d_Mo_move_10 ?_
    refine g_if_ne (pc := 13) (tgt := 22) hX d_Mo_move_13 (by decide) h (fun c3 h => ?_) (fun c3 h => ?_)
    · refine g_aload_n (pc := 22) hX d_Mo_move_22 rfl 0 rfl ?_
      obtain ⟨o4, e4, h⟩ := zbind h
      refine g_cvI (pc := 23) (w1 := []) (w2 := []) (st := []) (w' := (zwM c q x)) hX zk_Mo_current zs_Mo_current zL_Mo_136 (c_Mo_current c q x e4) rfl rfl rfl rfl (zself _) (zself _).symm 0 10 rfl rfl rfl d_Mo_move_23 ?_
      refine g_istore_n (pc := 26) (L' := [(2, .int o4), (0, .ref ((q 0))), (1, .int l1)]) hX d_Mo_move_26 rfl rfl rfl ?_
      refine g_aload_n (pc := 27) hX d_Mo_move_27 rfl 1 rfl ?_
      refine g_iload_n (pc := 28) hX d_Mo_move_28 rfl 0 rfl ?_
      obtain ⟨o5, e5, h⟩ := zbind h
      refine g_cvI (pc := 29) (w1 := []) (w2 := []) (st := []) (w' := (zwM c q x)) hX zk_Mo_canAct zs_Mo_canAct zL_Mo_197 (c_Mo_canAct c q x o4 e5) rfl rfl rfl rfl (zself _) (zself _).symm 0 10 rfl rfl rfl d_Mo_move_29 ?_
      refine g_if_ne (pc := 32) (tgt := 41) hX d_Mo_move_32 (by decide) h (fun c6 h => ?_) (fun c6 h => ?_)
      · refine g_aload_n (pc := 41) hX d_Mo_move_41 rfl 1 rfl ?_
        refine g_iload_n (pc := 42) hX d_Mo_move_42 rfl 2 rfl ?_
        obtain ⟨o7, e7, h⟩ := zbind h
        refine g_cvI (pc := 43) (w1 := []) (w2 := []) (st := []) (w' := (zwM c q x)) hX zk_Mo_isFree zs_Mo_isFree zL_Mo_169 (c_Mo_isFree c q x l1 e7) rfl rfl rfl rfl (zself _) (zself _).symm 0 10 rfl rfl rfl d_Mo_move_43 ?_
        refine g_if_ne (pc := 46) (tgt := 55) hX d_Mo_move_46 (by decide) h (fun c8 h => ?_) (fun c8 h => ?_)
        · refine g_aload_n (pc := 55) hX d_Mo_move_55 rfl 1 rfl ?_
          obtain ⟨o9, e9, h⟩ := zbind h
          refine g_cvV (pc := 56) (w1 := []) (w2 := []) (st := []) (w' := (zwM c q o9)) hX zk_Mo_findSteps zs_Mo_findSteps zL_Mo_209 (c_Mo_findSteps c q x e9) rfl rfl rfl rfl (zself _) (zself _).symm 0 10 rfl rfl rfl d_Mo_move_56 ?_
          refine g_aload_n (pc := 59) hX d_Mo_move_59 rfl 1 rfl ?_
          refine gf_Mo_56 (pc := 60) (v := .ref ((q 15))) hX 0 rfl rfl d_Mo_move_60 ?_
          refine g_iload_n (pc := 63) hX d_Mo_move_63 rfl 2 rfl ?_
          refine g_iald (pc := 64) (f := (o9.2 31)) hX 15 rfl h d_Mo_move_64 (fun h => ?_)
          refine g_if_lt (pc := 65) (tgt := 81) hX d_Mo_move_65 (by decide) h (fun c10 h => ?_) (fun c10 h => ?_)
          · refine g_aload_n (pc := 81) hX d_Mo_move_81 rfl 1 rfl ?_
            refine g_bipush (pc := 82) hX d_Mo_move_82 ze_6 ?_
            obtain ⟨o11, e11, h⟩ := zbind h
            refine g_cvI (pc := 84) (w1 := []) (w2 := []) (st := []) (w' := (zwM c q o11.2)) hX zk_Mo_refuses zs_Mo_refuses zL_Mo_172 (c_Mo_refuses c q o9 ((6 : Int32)) e11) rfl rfl rfl rfl (zself _) (zself _).symm 0 10 rfl rfl rfl d_Mo_move_84 ?_
            obtain rfl := Option.some.inj h
            exact g_iret (pc := 87) hX hR d_Mo_move_87
          · refine g_aload_n (pc := 68) hX d_Mo_move_68 rfl 1 rfl ?_
            refine gf_Mo_56 (pc := 69) (v := .ref ((q 15))) hX 0 rfl rfl d_Mo_move_69 ?_
            refine g_iload_n (pc := 72) hX d_Mo_move_72 rfl 2 rfl ?_
            refine g_iald (pc := 73) (f := (o9.2 31)) hX 15 rfl h d_Mo_move_73 (fun h => ?_)
            refine g_aload_n (pc := 74) hX d_Mo_move_74 rfl 1 rfl ?_
            obtain ⟨o12, e12, h⟩ := zbind h
            refine g_cvI (pc := 75) (w1 := []) (w2 := []) (st := [.int ((((o9.2 31)) l1.toNatClampNeg))]) (w' := (zwM c q o9)) hX zk_Mo_left zs_Mo_left zL_Mo_212 (c_Mo_left c q o9 e12) rfl rfl rfl rfl (zself _) (zself _).symm 0 10 rfl rfl rfl d_Mo_move_75 ?_
            refine g_icmp_le (pc := 78) (tgt := 88) hX d_Mo_move_78 (by decide) h (fun c13 h => ?_) (fun c13 h => ?_)
            · refine g_aload_n (pc := 88) hX d_Mo_move_88 rfl 1 rfl ?_
              obtain ⟨o14, e14, h⟩ := zbind h
              refine g_cvV (pc := 89) (w1 := []) (w2 := []) (st := []) (w' := (zwM c q o14)) hX zk_Mo_remembers zs_Mo_remembers zL_Mo_175 (c_Mo_remembers c q o9 e14) rfl rfl rfl rfl (zself _) (zself _).symm 0 10 rfl rfl rfl d_Mo_move_89 ?_
              refine g_aload_n (pc := 92) hX d_Mo_move_92 rfl 1 rfl ?_
              refine g_dup (pc := 93) hX d_Mo_move_93 rfl ?_
              refine gf_Mo_140 (pc := 94) (v := .int ((o14.1 23))) hX 0 rfl rfl d_Mo_move_94 ?_
              refine g_aload_n (pc := 97) hX d_Mo_move_97 rfl 1 rfl ?_
              refine gf_Mo_56 (pc := 98) (v := .ref ((q 15))) hX 0 rfl rfl d_Mo_move_98 ?_
              refine g_iload_n (pc := 101) hX d_Mo_move_101 rfl 2 rfl ?_
              refine g_iald (pc := 102) (f := (o14.2 31)) hX 15 rfl h d_Mo_move_102 (fun h => ?_)
              refine g_iadd (pc := 103) hX d_Mo_move_103 ?_
              refine pf_Mo_140 (pc := 104) (w2 := (zwM c q (((upd o14.1 23 (((o14.1 23) + (((o14.2 31)) l1.toNatClampNeg)))), o14.2)))) hX 0 rfl rfl (su_Mo_0_23 c q o14 (((o14.1 23) + (((o14.2 31)) l1.toNatClampNeg)))) d_Mo_move_104 ?_
              refine g_aload_n (pc := 107) hX d_Mo_move_107 rfl 1 rfl ?_
              refine gf_Mo_16 (pc := 108) (v := .ref ((q 3))) hX 0 rfl rfl d_Mo_move_108 ?_
              refine g_iload_n (pc := 111) hX d_Mo_move_111 rfl 0 rfl ?_
              refine g_iload_n (pc := 112) hX d_Mo_move_112 rfl 2 rfl ?_
              refine g_iast (pc := 113) (f := (o14.2 2)) (w' := (zwM c q (((upd o14.1 23 (((o14.1 23) + (((o14.2 31)) l1.toNatClampNeg)))), (va_up o14.2 2 (upd ((o14.2 2)) o4.toNatClampNeg l1)))))) hX 3 rfl h (sa_Mo_3 c q (((upd o14.1 23 (((o14.1 23) + (((o14.2 31)) l1.toNatClampNeg)))), o14.2)) (upd ((o14.2 2)) o4.toNatClampNeg l1)) d_Mo_move_113 (fun h => ?_)
              refine g_aload_n (pc := 114) hX d_Mo_move_114 rfl 1 rfl ?_
              refine g_bipush (pc := 115) hX d_Mo_move_115 ze_7 ?_
              refine g_iload_n (pc := 117) hX d_Mo_move_117 rfl 0 rfl ?_
              refine g_iload_n (pc := 118) hX d_Mo_move_118 rfl 2 rfl ?_
              obtain ⟨o15, e15, h⟩ := zbind h
              refine g_cvV (pc := 119) (w1 := []) (w2 := []) (st := []) (w' := (zwM c q o15)) hX zk_Mo_notes zs_Mo_notes zL_Mo_102 (c_Mo_notes c q (((upd o14.1 23 (((o14.1 23) + (((o14.2 31)) l1.toNatClampNeg)))), (va_up o14.2 2 (upd ((o14.2 2)) o4.toNatClampNeg l1)))) ((7 : Int32)) o4 l1 e15) rfl rfl rfl rfl (zself _) (zself _).symm 0 10 rfl rfl rfl d_Mo_move_119 ?_
              refine g_aload_n (pc := 122) hX d_Mo_move_122 rfl 1 rfl ?_
              obtain ⟨o16, e16, h⟩ := zbind h
              refine g_cvI (pc := 123) (w1 := []) (w2 := []) (st := []) (w' := (zwM c q o15)) hX zk_Mo_left zs_Mo_left zL_Mo_212 (c_Mo_left c q o15 e16) rfl rfl rfl rfl (zself _) (zself _).symm 0 10 rfl rfl rfl d_Mo_move_123 ?_
              obtain rfl := Option.some.inj h
              exact g_iret (pc := 126) hX hR d_Mo_move_126
            · refine g_aload_n (pc := 81) hX d_Mo_move_81 rfl 1 rfl ?_
              refine g_bipush (pc := 82) hX d_Mo_move_82 ze_6 ?_
              obtain ⟨o17, e17, h⟩ := zbind h
              refine g_cvI (pc := 84) (w1 := []) (w2 := []) (st := []) (w' := (zwM c q o17.2)) hX zk_Mo_refuses zs_Mo_refuses zL_Mo_172 (c_Mo_refuses c q o9 ((6 : Int32)) e17) rfl rfl rfl rfl (zself _) (zself _).symm 0 10 rfl rfl rfl d_Mo_move_84 ?_
              obtain rfl := Option.some.inj h
              exact g_iret (pc := 87) hX hR d_Mo_move_87
        · refine g_aload_n (pc := 49) hX d_Mo_move_49 rfl 1 rfl ?_
          refine g_iconst (pc := 50) hX d_Mo_move_50 zc_5 ?_
          obtain ⟨o18, e18, h⟩ := zbind h
          refine g_cvI (pc := 51) (w1 := []) (w2 := []) (st := []) (w' := (zwM c q o18.2)) hX zk_Mo_refuses zs_Mo_refuses zL_Mo_172 (c_Mo_refuses c q x ((5 : Int32)) e18) rfl rfl rfl rfl (zself _) (zself _).symm 0 10 rfl rfl rfl d_Mo_move_51 ?_
          obtain rfl := Option.some.inj h
          exact g_iret (pc := 54) hX hR d_Mo_move_54
      · refine g_aload_n (pc := 35) hX d_Mo_move_35 rfl 1 rfl ?_
        refine g_iconst (pc := 36) hX d_Mo_move_36 zc_3 ?_
        obtain ⟨o19, e19, h⟩ := zbind h
        refine g_cvI (pc := 37) (w1 := []) (w2 := []) (st := []) (w' := (zwM c q o19.2)) hX zk_Mo_refuses zs_Mo_refuses zL_Mo_172 (c_Mo_refuses c q x ((3 : Int32)) e19) rfl rfl rfl rfl (zself _) (zself _).symm 0 10 rfl rfl rfl d_Mo_move_37 ?_
        obtain rfl := Option.some.inj h
        exact g_iret (pc := 40) hX hR d_Mo_move_40
    · refine g_aload_n (pc := 16) hX d_Mo_move_16 rfl 0 rfl ?_
      refine g_iconst (pc := 17) hX d_Mo_move_17 zc_1 ?_
      obtain ⟨o20, e20, h⟩ := zbind h
      refine g_cvI (pc := 18) (w1 := []) (w2 := []) (st := []) (w' := (zwM c q o20.2)) hX zk_Mo_refuses zs_Mo_refuses zL_Mo_172 (c_Mo_refuses c q x ((1 : Int32)) e20) rfl rfl rfl rfl (zself _) (zself _).symm 0 10 rfl rfl rfl d_Mo_move_18 ?_
      obtain rfl := Option.some.inj h
      exact g_iret (pc := 21) hX hR d_Mo_move_21
  · refine g_iconst (pc := 7) hX d_Mo_move_7 zc_m1 ?_
    obtain rfl := Option.some.inj h
    exact g_iret (pc := 8) hX hR d_Mo_move_8)
theorem d_Mo_way_0 : decode zb_Mo_way 0 = .ok (.iload_n 1, 1) := by decide +kernel
theorem d_Mo_way_1 : decode zb_Mo_way 1 = .ok (.invokestatic 166, 3) := by decide +kernel
theorem d_Mo_way_4 : decode zb_Mo_way 4 = .ok (.ifCond .ne 5, 3) := by decide +kernel
theorem d_Mo_way_7 : decode zb_Mo_way 7 = .ok (.iconst (-1), 1) := by decide +kernel
theorem d_Mo_way_8 : decode zb_Mo_way 8 = .ok (.ireturn, 1) := by decide +kernel
theorem d_Mo_way_9 : decode zb_Mo_way 9 = .ok (.aload_n 0, 1) := by decide +kernel
theorem d_Mo_way_10 : decode zb_Mo_way 10 = .ok (.getfield 181, 3) := by decide +kernel
theorem d_Mo_way_13 : decode zb_Mo_way 13 = .ok (.ifCond .ne 9, 3) := by decide +kernel
theorem d_Mo_way_16 : decode zb_Mo_way 16 = .ok (.aload_n 0, 1) := by decide +kernel
theorem d_Mo_way_17 : decode zb_Mo_way 17 = .ok (.iconst 1, 1) := by decide +kernel
theorem d_Mo_way_18 : decode zb_Mo_way 18 = .ok (.invokevirtual 172, 3) := by decide +kernel
theorem d_Mo_way_21 : decode zb_Mo_way 21 = .ok (.ireturn, 1) := by decide +kernel
theorem d_Mo_way_22 : decode zb_Mo_way 22 = .ok (.iload_n 1, 1) := by decide +kernel
theorem d_Mo_way_23 : decode zb_Mo_way 23 = .ok (.aload_n 0, 1) := by decide +kernel
theorem d_Mo_way_24 : decode zb_Mo_way 24 = .ok (.getfield 16, 3) := by decide +kernel
theorem d_Mo_way_27 : decode zb_Mo_way 27 = .ok (.aload_n 0, 1) := by decide +kernel
theorem d_Mo_way_28 : decode zb_Mo_way 28 = .ok (.invokevirtual 136, 3) := by decide +kernel
theorem d_Mo_way_31 : decode zb_Mo_way 31 = .ok (.iaload, 1) := by decide +kernel
theorem d_Mo_way_32 : decode zb_Mo_way 32 = .ok (.if_icmp .ne 5, 3) := by decide +kernel
theorem d_Mo_way_35 : decode zb_Mo_way 35 = .ok (.iconst 0, 1) := by decide +kernel
theorem d_Mo_way_36 : decode zb_Mo_way 36 = .ok (.ireturn, 1) := by decide +kernel
theorem d_Mo_way_37 : decode zb_Mo_way 37 = .ok (.aload_n 0, 1) := by decide +kernel
theorem d_Mo_way_38 : decode zb_Mo_way 38 = .ok (.invokevirtual 209, 3) := by decide +kernel
theorem d_Mo_way_41 : decode zb_Mo_way 41 = .ok (.aload_n 0, 1) := by decide +kernel
theorem d_Mo_way_42 : decode zb_Mo_way 42 = .ok (.iload_n 1, 1) := by decide +kernel
theorem d_Mo_way_43 : decode zb_Mo_way 43 = .ok (.invokevirtual 169, 3) := by decide +kernel
theorem d_Mo_way_46 : decode zb_Mo_way 46 = .ok (.ifCond .eq 21, 3) := by decide +kernel
theorem d_Mo_way_49 : decode zb_Mo_way 49 = .ok (.aload_n 0, 1) := by decide +kernel
theorem d_Mo_way_50 : decode zb_Mo_way 50 = .ok (.getfield 56, 3) := by decide +kernel
theorem d_Mo_way_53 : decode zb_Mo_way 53 = .ok (.iload_n 1, 1) := by decide +kernel
theorem d_Mo_way_54 : decode zb_Mo_way 54 = .ok (.iaload, 1) := by decide +kernel
theorem d_Mo_way_55 : decode zb_Mo_way 55 = .ok (.ifCond .lt 12, 3) := by decide +kernel
theorem d_Mo_way_58 : decode zb_Mo_way 58 = .ok (.aload_n 0, 1) := by decide +kernel
theorem d_Mo_way_59 : decode zb_Mo_way 59 = .ok (.getfield 56, 3) := by decide +kernel
theorem d_Mo_way_62 : decode zb_Mo_way 62 = .ok (.iload_n 1, 1) := by decide +kernel
theorem d_Mo_way_63 : decode zb_Mo_way 63 = .ok (.iaload, 1) := by decide +kernel
theorem d_Mo_way_64 : decode zb_Mo_way 64 = .ok (.goto 5, 3) := by decide +kernel
theorem d_Mo_way_67 : decode zb_Mo_way 67 = .ok (.bipush (-5), 2) := by decide +kernel
theorem d_Mo_way_69 : decode zb_Mo_way 69 = .ok (.ireturn, 1) := by decide +kernel
def k_Mo_way (x : zsM) (l1 : Int32) : Option (Int32 × zsM) := (k_Mo_isCell l1).bind fun o1 => (if o1 = 0 then some ((-1 : Int32), x) else (if (x.1 19) = 0 then (k_Mo_refuses x ((1 : Int32))).bind fun o10 => some (o10.1, o10.2) else (k_Mo_current x).bind fun o4 => (if zOut o4 8 then none else (if l1 = (((x.2 2)) o4.toNatClampNeg) then some ((0 : Int32), x) else (k_Mo_findSteps x).bind fun o6 => (k_Mo_isFree o6 l1).bind fun o7 => (if o7 = 0 then some ((-5 : Int32), o6) else (if zOut l1 100 then none else (if (((o6.2 31)) l1.toNatClampNeg) < 0 then some ((-5 : Int32), o6) else (if zOut l1 100 then none else some ((((o6.2 31)) l1.toNatClampNeg), o6)))))))))
set_option maxRecDepth 20000 in
theorem c_Mo_way (c : zY) (q : Nat → Nat) (x : zsM) (l1 : Int32) {out : Int32 × zsM} (h : k_Mo_way x l1 = some out) : KM zy_Mo_way zb_Mo_way 2 (some .int) 3 c [.ref ((q 0)), .int l1] (zwM c q x) (zwM c q out.2) (some (.int out.1)) := zK_of zp_Mo rfl (Nat.le_of_ble_eq_true rfl) (zq_Mo c q _ _) (fun X hX hR => by
  show Go X (zwM c q x) [(0, .ref ((q 0))), (1, .int l1)] 0 []
  rw [k_Mo_way] at h
  refine g_iload_n (pc := 0) hX d_Mo_way_0 rfl 1 rfl ?_
  obtain ⟨o1, e1, h⟩ := zbind h
  refine g_csI (pc := 1) (st := []) hX zk_Mo_isCell zL_Mo_166 (c_Mo_isCell c l1 e1) rfl rfl rfl rfl rfl d_Mo_way_1 ?_
  refine g_if_ne (pc := 4) (tgt := 9) hX d_Mo_way_4 (by decide) h (fun c2 h => ?_) (fun c2 h => ?_)
  · refine g_aload_n (pc := 9) hX d_Mo_way_9 rfl 0 rfl ?_
    refine gf_Mo_181 (pc := 10) (v := .int ((x.1 19))) hX 0 rfl rfl d_Mo_way_10 ?_
    refine g_if_ne (pc := 13) (tgt := 22) hX d_Mo_way_13 (by decide) h (fun c3 h => ?_) (fun c3 h => ?_)
    · refine g_iload_n (pc := 22) hX d_Mo_way_22 rfl 1 rfl ?_
      refine g_aload_n (pc := 23) hX d_Mo_way_23 rfl 0 rfl ?_
      refine gf_Mo_16 (pc := 24) (v := .ref ((q 3))) hX 0 rfl rfl d_Mo_way_24 ?_
      refine g_aload_n (pc := 27) hX d_Mo_way_27 rfl 0 rfl ?_
      obtain ⟨o4, e4, h⟩ := zbind h
      refine g_cvI (pc := 28) (w1 := []) (w2 := []) (st := [.ref ((q 3)), .int l1]) (w' := (zwM c q x)) hX zk_Mo_current zs_Mo_current zL_Mo_136 (c_Mo_current c q x e4) rfl rfl rfl rfl (zself _) (zself _).symm 0 10 rfl rfl rfl d_Mo_way_28 ?_
      refine g_iald (pc := 31) (f := (x.2 2)) hX 3 rfl h d_Mo_way_31 (fun h => ?_)
      refine g_icmp_ne (pc := 32) (tgt := 37) hX d_Mo_way_32 (by decide) h (fun c5 h => ?_) (fun c5 h => ?_)
      · refine g_aload_n (pc := 37) hX d_Mo_way_37 rfl 0 rfl ?_
        obtain ⟨o6, e6, h⟩ := zbind h
        refine g_cvV (pc := 38) (w1 := []) (w2 := []) (st := []) (w' := (zwM c q o6)) hX zk_Mo_findSteps zs_Mo_findSteps zL_Mo_209 (c_Mo_findSteps c q x e6) rfl rfl rfl rfl (zself _) (zself _).symm 0 10 rfl rfl rfl d_Mo_way_38 ?_
        refine g_aload_n (pc := 41) hX d_Mo_way_41 rfl 0 rfl ?_
        refine g_iload_n (pc := 42) hX d_Mo_way_42 rfl 1 rfl ?_
        obtain ⟨o7, e7, h⟩ := zbind h
        refine g_cvI (pc := 43) (w1 := []) (w2 := []) (st := []) (w' := (zwM c q o6)) hX zk_Mo_isFree zs_Mo_isFree zL_Mo_169 (c_Mo_isFree c q o6 l1 e7) rfl rfl rfl rfl (zself _) (zself _).symm 0 10 rfl rfl rfl d_Mo_way_43 ?_
        refine g_if_eq (pc := 46) (tgt := 67) hX d_Mo_way_46 (by decide) h (fun c8 h => ?_) (fun c8 h => ?_)
        · refine g_bipush (pc := 67) hX d_Mo_way_67 ze_m5 ?_
          obtain rfl := Option.some.inj h
          exact g_iret (pc := 69) hX hR d_Mo_way_69
        · refine g_aload_n (pc := 49) hX d_Mo_way_49 rfl 0 rfl ?_
          refine gf_Mo_56 (pc := 50) (v := .ref ((q 15))) hX 0 rfl rfl d_Mo_way_50 ?_
          refine g_iload_n (pc := 53) hX d_Mo_way_53 rfl 1 rfl ?_
          refine g_iald (pc := 54) (f := (o6.2 31)) hX 15 rfl h d_Mo_way_54 (fun h => ?_)
          refine g_if_lt (pc := 55) (tgt := 67) hX d_Mo_way_55 (by decide) h (fun c9 h => ?_) (fun c9 h => ?_)
          · refine g_bipush (pc := 67) hX d_Mo_way_67 ze_m5 ?_
            obtain rfl := Option.some.inj h
            exact g_iret (pc := 69) hX hR d_Mo_way_69
          · refine g_aload_n (pc := 58) hX d_Mo_way_58 rfl 0 rfl ?_
            refine gf_Mo_56 (pc := 59) (v := .ref ((q 15))) hX 0 rfl rfl d_Mo_way_59 ?_
            refine g_iload_n (pc := 62) hX d_Mo_way_62 rfl 1 rfl ?_
            refine g_iald (pc := 63) (f := (o6.2 31)) hX 15 rfl h d_Mo_way_63 (fun h => ?_)
            refine g_goto (pc := 64) (tgt := 69) hX d_Mo_way_64 (by decide) ?_
            obtain rfl := Option.some.inj h
            exact g_iret (pc := 69) hX hR d_Mo_way_69
      · refine g_iconst (pc := 35) hX d_Mo_way_35 zc_0 ?_
        obtain rfl := Option.some.inj h
        exact g_iret (pc := 36) hX hR d_Mo_way_36
    · refine g_aload_n (pc := 16) hX d_Mo_way_16 rfl 0 rfl ?_
      refine g_iconst (pc := 17) hX d_Mo_way_17 zc_1 ?_
      obtain ⟨o10, e10, h⟩ := zbind h
      refine g_cvI (pc := 18) (w1 := []) (w2 := []) (st := []) (w' := (zwM c q o10.2)) hX zk_Mo_refuses zs_Mo_refuses zL_Mo_172 (c_Mo_refuses c q x ((1 : Int32)) e10) rfl rfl rfl rfl (zself _) (zself _).symm 0 10 rfl rfl rfl d_Mo_way_18 ?_
      obtain rfl := Option.some.inj h
      exact g_iret (pc := 21) hX hR d_Mo_way_21
  · refine g_iconst (pc := 7) hX d_Mo_way_7 zc_m1 ?_
    obtain rfl := Option.some.inj h
    exact g_iret (pc := 8) hX hR d_Mo_way_8)
theorem d_Mo_areNeighbors_0 : decode zb_Mo_areNeighbors 0 = .ok (.iconst 0, 1) := by decide +kernel
theorem d_Mo_areNeighbors_1 : decode zb_Mo_areNeighbors 1 = .ok (.istore_n 3, 1) := by decide +kernel
theorem d_Mo_areNeighbors_2 : decode zb_Mo_areNeighbors 2 = .ok (.iload_n 3, 1) := by decide +kernel
theorem d_Mo_areNeighbors_3 : decode zb_Mo_areNeighbors 3 = .ok (.iconst 4, 1) := by decide +kernel
theorem d_Mo_areNeighbors_4 : decode zb_Mo_areNeighbors 4 = .ok (.if_icmp .ge 20, 3) := by decide +kernel
theorem d_Mo_areNeighbors_7 : decode zb_Mo_areNeighbors 7 = .ok (.iload_n 1, 1) := by decide +kernel
theorem d_Mo_areNeighbors_8 : decode zb_Mo_areNeighbors 8 = .ok (.iload_n 3, 1) := by decide +kernel
theorem d_Mo_areNeighbors_9 : decode zb_Mo_areNeighbors 9 = .ok (.invokestatic 203, 3) := by decide +kernel
theorem d_Mo_areNeighbors_12 : decode zb_Mo_areNeighbors 12 = .ok (.iload_n 2, 1) := by decide +kernel
theorem d_Mo_areNeighbors_13 : decode zb_Mo_areNeighbors 13 = .ok (.if_icmp .ne 5, 3) := by decide +kernel
theorem d_Mo_areNeighbors_16 : decode zb_Mo_areNeighbors 16 = .ok (.iconst 1, 1) := by decide +kernel
theorem d_Mo_areNeighbors_17 : decode zb_Mo_areNeighbors 17 = .ok (.ireturn, 1) := by decide +kernel
theorem d_Mo_areNeighbors_18 : decode zb_Mo_areNeighbors 18 = .ok (.iinc 3 1, 3) := by decide +kernel
theorem d_Mo_areNeighbors_21 : decode zb_Mo_areNeighbors 21 = .ok (.goto (-19), 3) := by decide +kernel
theorem d_Mo_areNeighbors_24 : decode zb_Mo_areNeighbors 24 = .ok (.iconst 0, 1) := by decide +kernel
theorem d_Mo_areNeighbors_25 : decode zb_Mo_areNeighbors 25 = .ok (.ireturn, 1) := by decide +kernel
def k_Mo_areNeighbors_2 (x : zsM) (l1 : Int32) (l2 : Int32) : Nat → Int32 → Option (Int32)
  | 0, _ => none
  | fu + 1, l3 => (if l3 < (4 : Int32) then (k_Mo_beside l1 l3).bind fun o2 => (if o2 = l2 then some ((1 : Int32)) else k_Mo_areNeighbors_2 x l1 l2 fu ((l3 + (1 : Int32)))) else some ((0 : Int32)))
set_option maxRecDepth 20000 in
theorem w_Mo_areNeighbors_2 {X : zX} {c : zY} {q : Nat → Nat} {x : zsM} {l1 : Int32} {l2 : Int32} {out : Int32} (hX : Ok X zr_Mo zb_Mo_areNeighbors 4 2 c) (hR : Rt X (some .boolean) (some (.int out)) (zwM c q x)) : ∀ (fu : Nat) (l3 : Int32), k_Mo_areNeighbors_2 x l1 l2 fu l3 = some out → Go X (zwM c q x) [(1, .int l1), (2, .int l2), (3, .int l3)] 2 [] := by
  intro fu
  induction fu with
  | zero => intro l3 h; rw [k_Mo_areNeighbors_2] at h; cases h
  | succ fu ih =>
    intro l3 h
    rw [k_Mo_areNeighbors_2] at h
    refine g_iload_n (pc := 2) hX d_Mo_areNeighbors_2 rfl 2 rfl ?_
    refine g_iconst (pc := 3) hX d_Mo_areNeighbors_3 zc_4 ?_
    refine g_icmp_ge (pc := 4) (tgt := 24) hX d_Mo_areNeighbors_4 (by decide) h (fun c1 h => ?_) (fun c1 h => ?_)
    · refine g_iconst (pc := 24) hX d_Mo_areNeighbors_24 zc_0 ?_
      obtain rfl := Option.some.inj h
      exact g_zret (pc := 25) hX hR (Or.inl rfl) d_Mo_areNeighbors_25
    · refine g_iload_n (pc := 7) hX d_Mo_areNeighbors_7 rfl 0 rfl ?_
      refine g_iload_n (pc := 8) hX d_Mo_areNeighbors_8 rfl 2 rfl ?_
      obtain ⟨o2, e2, h⟩ := zbind h
      refine g_csI (pc := 9) (st := []) hX zk_Mo_beside zL_Mo_203 (c_Mo_beside c l1 l3 e2) rfl rfl rfl rfl rfl d_Mo_areNeighbors_9 ?_
      refine g_iload_n (pc := 12) hX d_Mo_areNeighbors_12 rfl 1 rfl ?_
      refine g_icmp_ne (pc := 13) (tgt := 18) hX d_Mo_areNeighbors_13 (by decide) h (fun c3 h => ?_) (fun c3 h => ?_)
      · refine g_iinc (pc := 18) (q := 2) (L' := [(3, .int ((l3 + (1 : Int32)))), (1, .int l1), (2, .int l2)]) hX d_Mo_areNeighbors_18 rfl zc_1 rfl rfl ?_
        refine g_goto (pc := 21) (tgt := 2) hX d_Mo_areNeighbors_21 (by decide) ?_
        refine g_ls (L' := [(1, .int l1), (2, .int l2), (3, .int ((l3 + (1 : Int32))))]) [1, 2, 0] rfl ?_
        exact ih _ h
      · refine g_iconst (pc := 16) hX d_Mo_areNeighbors_16 zc_1 ?_
        obtain rfl := Option.some.inj h
        exact g_zret (pc := 17) hX hR (Or.inr rfl) d_Mo_areNeighbors_17
def k_Mo_areNeighbors (x : zsM) (l1 : Int32) (l2 : Int32) : Option (Int32) := k_Mo_areNeighbors_2 x l1 l2 zFu ((0 : Int32))
set_option maxRecDepth 20000 in
theorem c_Mo_areNeighbors (c : zY) (q : Nat → Nat) (x : zsM) (l1 : Int32) (l2 : Int32) {out : Int32} (h : k_Mo_areNeighbors x l1 l2 = some out) : KM zy_Mo_areNeighbors zb_Mo_areNeighbors 4 (some .boolean) 2 c [.ref ((q 0)), .int l1, .int l2] (zwM c q x) (zwM c q x) (some (.int out)) := zK_of zp_Mo rfl (Nat.le_of_ble_eq_true rfl) (zq_Mo c q _ _) (fun X hX hR => by
  show Go X (zwM c q x) [(0, .ref ((q 0))), (1, .int l1), (2, .int l2)] 0 []
  rw [k_Mo_areNeighbors] at h
  refine g_iconst (pc := 0) hX d_Mo_areNeighbors_0 zc_0 ?_
  refine g_istore_n (pc := 1) (L' := [(3, .int ((0 : Int32))), (0, .ref ((q 0))), (1, .int l1), (2, .int l2)]) hX d_Mo_areNeighbors_1 rfl rfl rfl ?_
  refine g_ls (L' := [(1, .int l1), (2, .int l2), (3, .int ((0 : Int32)))]) [2, 3, 0] rfl ?_
  exact w_Mo_areNeighbors_2 hX hR _ _ h)
theorem d_Mo_strike_0 : decode zb_Mo_strike 0 = .ok (.aload_n 0, 1) := by decide +kernel
theorem d_Mo_strike_1 : decode zb_Mo_strike 1 = .ok (.iload_n 1, 1) := by decide +kernel
theorem d_Mo_strike_2 : decode zb_Mo_strike 2 = .ok (.invokevirtual 178, 3) := by decide +kernel
theorem d_Mo_strike_5 : decode zb_Mo_strike 5 = .ok (.ifCond .ne 5, 3) := by decide +kernel
theorem d_Mo_strike_8 : decode zb_Mo_strike 8 = .ok (.iconst (-1), 1) := by decide +kernel
theorem d_Mo_strike_9 : decode zb_Mo_strike 9 = .ok (.ireturn, 1) := by decide +kernel
theorem d_Mo_strike_10 : decode zb_Mo_strike 10 = .ok (.aload_n 0, 1) := by decide +kernel
theorem d_Mo_strike_11 : decode zb_Mo_strike 11 = .ok (.getfield 181, 3) := by decide +kernel
theorem d_Mo_strike_14 : decode zb_Mo_strike 14 = .ok (.ifCond .ne 9, 3) := by decide +kernel
theorem d_Mo_strike_17 : decode zb_Mo_strike 17 = .ok (.aload_n 0, 1) := by decide +kernel
theorem d_Mo_strike_18 : decode zb_Mo_strike 18 = .ok (.iconst 1, 1) := by decide +kernel
theorem d_Mo_strike_19 : decode zb_Mo_strike 19 = .ok (.invokevirtual 172, 3) := by decide +kernel
theorem d_Mo_strike_22 : decode zb_Mo_strike 22 = .ok (.ireturn, 1) := by decide +kernel
theorem d_Mo_strike_23 : decode zb_Mo_strike 23 = .ok (.aload_n 0, 1) := by decide +kernel
theorem d_Mo_strike_24 : decode zb_Mo_strike 24 = .ok (.invokevirtual 136, 3) := by decide +kernel
theorem d_Mo_strike_27 : decode zb_Mo_strike 27 = .ok (.istore_n 2, 1) := by decide +kernel
theorem d_Mo_strike_28 : decode zb_Mo_strike 28 = .ok (.aload_n 0, 1) := by decide +kernel
theorem d_Mo_strike_29 : decode zb_Mo_strike 29 = .ok (.iload_n 2, 1) := by decide +kernel
theorem d_Mo_strike_30 : decode zb_Mo_strike 30 = .ok (.invokevirtual 197, 3) := by decide +kernel
theorem d_Mo_strike_33 : decode zb_Mo_strike 33 = .ok (.ifCond .ne 9, 3) := by decide +kernel
theorem d_Mo_strike_36 : decode zb_Mo_strike 36 = .ok (.aload_n 0, 1) := by decide +kernel
theorem d_Mo_strike_37 : decode zb_Mo_strike 37 = .ok (.iconst 3, 1) := by decide +kernel
theorem d_Mo_strike_38 : decode zb_Mo_strike 38 = .ok (.invokevirtual 172, 3) := by decide +kernel
theorem d_Mo_strike_41 : decode zb_Mo_strike 41 = .ok (.ireturn, 1) := by decide +kernel
theorem d_Mo_strike_42 : decode zb_Mo_strike 42 = .ok (.aload_n 0, 1) := by decide +kernel
theorem d_Mo_strike_43 : decode zb_Mo_strike 43 = .ok (.getfield 143, 3) := by decide +kernel
theorem d_Mo_strike_46 : decode zb_Mo_strike 46 = .ok (.iconst 1, 1) := by decide +kernel
theorem d_Mo_strike_47 : decode zb_Mo_strike 47 = .ok (.if_icmp .ne 9, 3) := by decide +kernel
theorem d_Mo_strike_50 : decode zb_Mo_strike 50 = .ok (.aload_n 0, 1) := by decide +kernel
theorem d_Mo_strike_51 : decode zb_Mo_strike 51 = .ok (.iconst 4, 1) := by decide +kernel
theorem d_Mo_strike_52 : decode zb_Mo_strike 52 = .ok (.invokevirtual 172, 3) := by decide +kernel
theorem d_Mo_strike_55 : decode zb_Mo_strike 55 = .ok (.ireturn, 1) := by decide +kernel
theorem d_Mo_strike_56 : decode zb_Mo_strike 56 = .ok (.aload_n 0, 1) := by decide +kernel
theorem d_Mo_strike_57 : decode zb_Mo_strike 57 = .ok (.getfield 13, 3) := by decide +kernel
theorem d_Mo_strike_60 : decode zb_Mo_strike 60 = .ok (.iload_n 1, 1) := by decide +kernel
theorem d_Mo_strike_61 : decode zb_Mo_strike 61 = .ok (.iaload, 1) := by decide +kernel
theorem d_Mo_strike_62 : decode zb_Mo_strike 62 = .ok (.aload_n 0, 1) := by decide +kernel
theorem d_Mo_strike_63 : decode zb_Mo_strike 63 = .ok (.getfield 13, 3) := by decide +kernel
theorem d_Mo_strike_66 : decode zb_Mo_strike 66 = .ok (.iload_n 2, 1) := by decide +kernel
theorem d_Mo_strike_67 : decode zb_Mo_strike 67 = .ok (.iaload, 1) := by decide +kernel
theorem d_Mo_strike_68 : decode zb_Mo_strike 68 = .ok (.if_icmp .eq 30, 3) := by decide +kernel
theorem d_Mo_strike_71 : decode zb_Mo_strike 71 = .ok (.aload_n 0, 1) := by decide +kernel
theorem d_Mo_strike_72 : decode zb_Mo_strike 72 = .ok (.iload_n 1, 1) := by decide +kernel
theorem d_Mo_strike_73 : decode zb_Mo_strike 73 = .ok (.invokevirtual 110, 3) := by decide +kernel
theorem d_Mo_strike_76 : decode zb_Mo_strike 76 = .ok (.ifCond .ne 22, 3) := by decide +kernel
theorem d_Mo_strike_79 : decode zb_Mo_strike 79 = .ok (.aload_n 0, 1) := by decide +kernel
theorem d_Mo_strike_80 : decode zb_Mo_strike 80 = .ok (.aload_n 0, 1) := by decide +kernel
theorem d_Mo_strike_81 : decode zb_Mo_strike 81 = .ok (.getfield 16, 3) := by decide +kernel
theorem d_Mo_strike_84 : decode zb_Mo_strike 84 = .ok (.iload_n 2, 1) := by decide +kernel
theorem d_Mo_strike_85 : decode zb_Mo_strike 85 = .ok (.iaload, 1) := by decide +kernel
theorem d_Mo_strike_86 : decode zb_Mo_strike 86 = .ok (.aload_n 0, 1) := by decide +kernel
theorem d_Mo_strike_87 : decode zb_Mo_strike 87 = .ok (.getfield 16, 3) := by decide +kernel
theorem d_Mo_strike_90 : decode zb_Mo_strike 90 = .ok (.iload_n 1, 1) := by decide +kernel
theorem d_Mo_strike_91 : decode zb_Mo_strike 91 = .ok (.iaload, 1) := by decide +kernel
theorem d_Mo_strike_92 : decode zb_Mo_strike 92 = .ok (.invokevirtual 215, 3) := by decide +kernel
theorem d_Mo_strike_95 : decode zb_Mo_strike 95 = .ok (.ifCond .ne 10, 3) := by decide +kernel
theorem d_Mo_strike_98 : decode zb_Mo_strike 98 = .ok (.aload_n 0, 1) := by decide +kernel
theorem d_Mo_strike_99 : decode zb_Mo_strike 99 = .ok (.bipush 7, 2) := by decide +kernel
theorem d_Mo_strike_101 : decode zb_Mo_strike 101 = .ok (.invokevirtual 172, 3) := by decide +kernel
theorem d_Mo_strike_104 : decode zb_Mo_strike 104 = .ok (.ireturn, 1) := by decide +kernel
theorem d_Mo_strike_105 : decode zb_Mo_strike 105 = .ok (.aload_n 0, 1) := by decide +kernel
theorem d_Mo_strike_106 : decode zb_Mo_strike 106 = .ok (.invokevirtual 175, 3) := by decide +kernel
theorem d_Mo_strike_109 : decode zb_Mo_strike 109 = .ok (.aload_n 0, 1) := by decide +kernel
theorem d_Mo_strike_110 : decode zb_Mo_strike 110 = .ok (.iconst 1, 1) := by decide +kernel
theorem d_Mo_strike_111 : decode zb_Mo_strike 111 = .ok (.putfield 143, 3) := by decide +kernel
theorem d_Mo_strike_114 : decode zb_Mo_strike 114 = .ok (.aload_n 0, 1) := by decide +kernel
theorem d_Mo_strike_115 : decode zb_Mo_strike 115 = .ok (.dup, 1) := by decide +kernel
theorem d_Mo_strike_116 : decode zb_Mo_strike 116 = .ok (.getfield 218, 3) := by decide +kernel
theorem d_Mo_strike_119 : decode zb_Mo_strike 119 = .ok (.iconst 1, 1) := by decide +kernel
theorem d_Mo_strike_120 : decode zb_Mo_strike 120 = .ok (.iadd, 1) := by decide +kernel
theorem d_Mo_strike_121 : decode zb_Mo_strike 121 = .ok (.putfield 218, 3) := by decide +kernel
theorem d_Mo_strike_124 : decode zb_Mo_strike 124 = .ok (.aload_n 0, 1) := by decide +kernel
theorem d_Mo_strike_125 : decode zb_Mo_strike 125 = .ok (.bipush 10, 2) := by decide +kernel
theorem d_Mo_strike_127 : decode zb_Mo_strike 127 = .ok (.iload_n 2, 1) := by decide +kernel
theorem d_Mo_strike_128 : decode zb_Mo_strike 128 = .ok (.iload_n 1, 1) := by decide +kernel
theorem d_Mo_strike_129 : decode zb_Mo_strike 129 = .ok (.invokevirtual 102, 3) := by decide +kernel
theorem d_Mo_strike_132 : decode zb_Mo_strike 132 = .ok (.aload_n 0, 1) := by decide +kernel
theorem d_Mo_strike_133 : decode zb_Mo_strike 133 = .ok (.iload_n 1, 1) := by decide +kernel
theorem d_Mo_strike_134 : decode zb_Mo_strike 134 = .ok (.iconst 5, 1) := by decide +kernel
theorem d_Mo_strike_135 : decode zb_Mo_strike 135 = .ok (.iconst 0, 1) := by decide +kernel
theorem d_Mo_strike_136 : decode zb_Mo_strike 136 = .ok (.invokevirtual 159, 3) := by decide +kernel
theorem d_Mo_strike_139 : decode zb_Mo_strike 139 = .ok (.ireturn, 1) := by decide +kernel
def k_Mo_strike (x : zsM) (l1 : Int32) : Option (Int32 × zsM) := (k_Mo_isFighter x l1).bind fun o1 => (if o1 = 0 then some ((-1 : Int32), x) else (if (x.1 19) = 0 then (k_Mo_refuses x ((1 : Int32))).bind fun o21 => some (o21.1, o21.2) else (k_Mo_current x).bind fun o4 => (k_Mo_canAct x o4).bind fun o5 => (if o5 = 0 then (k_Mo_refuses x ((3 : Int32))).bind fun o20 => some (o20.1, o20.2) else (if (x.1 24) = (1 : Int32) then (k_Mo_refuses x ((4 : Int32))).bind fun o19 => some (o19.1, o19.2) else (if zOut l1 8 then none else (if zOut o4 8 then none else (if (((x.2 1)) l1.toNatClampNeg) = (((x.2 1)) o4.toNatClampNeg) then (k_Mo_refuses x ((7 : Int32))).bind fun o9 => some (o9.1, o9.2) else (k_Mo_isDown x l1).bind fun o10 => (if o10 = 0 then (if zOut o4 8 then none else (if zOut l1 8 then none else (k_Mo_areNeighbors x ((((x.2 2)) o4.toNatClampNeg)) ((((x.2 2)) l1.toNatClampNeg))).bind fun o13 => (if o13 = 0 then (k_Mo_refuses x ((7 : Int32))).bind fun o18 => some (o18.1, o18.2) else (k_Mo_remembers x).bind fun o15 => (k_Mo_notes (((upd ((upd o15.1 24 ((1 : Int32)))) 28 (((o15.1 28) + (1 : Int32)))), o15.2)) ((10 : Int32)) o4 l1).bind fun o16 => (k_Mo_harms o16 l1 ((5 : Int32)) ((0 : Int32))).bind fun o17 => some (o17.1, o17.2)))) else (k_Mo_refuses x ((7 : Int32))).bind fun o12 => some (o12.1, o12.2)))))))))
set_option maxRecDepth 20000 in
theorem c_Mo_strike (c : zY) (q : Nat → Nat) (x : zsM) (l1 : Int32) {out : Int32 × zsM} (h : k_Mo_strike x l1 = some out) : KM zy_Mo_strike zb_Mo_strike 3 (some .int) 4 c [.ref ((q 0)), .int l1] (zwM c q x) (zwM c q out.2) (some (.int out.1)) := zK_of zp_Mo rfl (Nat.le_of_ble_eq_true rfl) (zq_Mo c q _ _) (fun X hX hR => by
  show Go X (zwM c q x) [(0, .ref ((q 0))), (1, .int l1)] 0 []
  rw [k_Mo_strike] at h
  refine g_aload_n (pc := 0) hX d_Mo_strike_0 rfl 0 rfl ?_
  refine g_iload_n (pc := 1) hX d_Mo_strike_1 rfl 1 rfl ?_
  obtain ⟨o1, e1, h⟩ := zbind h
  refine g_cvI (pc := 2) (w1 := []) (w2 := []) (st := []) (w' := (zwM c q x)) hX zk_Mo_isFighter zs_Mo_isFighter zL_Mo_178 (c_Mo_isFighter c q x l1 e1) rfl rfl rfl rfl (zself _) (zself _).symm 0 10 rfl rfl rfl d_Mo_strike_2 ?_
  refine g_if_ne (pc := 5) (tgt := 10) hX d_Mo_strike_5 (by decide) h (fun c2 h => ?_) (fun c2 h => ?_)
  · refine g_aload_n (pc := 10) hX d_Mo_strike_10 rfl 0 rfl ?_
    refine gf_Mo_181 (pc := 11) (v := .int ((x.1 19))) hX 0 rfl rfl d_Mo_strike_11 ?_
    refine g_if_ne (pc := 14) (tgt := 23) hX d_Mo_strike_14 (by decide) h (fun c3 h => ?_) (fun c3 h => ?_)
    · refine g_aload_n (pc := 23) hX d_Mo_strike_23 rfl 0 rfl ?_
      obtain ⟨o4, e4, h⟩ := zbind h
      refine g_cvI (pc := 24) (w1 := []) (w2 := []) (st := []) (w' := (zwM c q x)) hX zk_Mo_current zs_Mo_current zL_Mo_136 (c_Mo_current c q x e4) rfl rfl rfl rfl (zself _) (zself _).symm 0 10 rfl rfl rfl d_Mo_strike_24 ?_
      refine g_istore_n (pc := 27) (L' := [(2, .int o4), (0, .ref ((q 0))), (1, .int l1)]) hX d_Mo_strike_27 rfl rfl rfl ?_
      refine g_aload_n (pc := 28) hX d_Mo_strike_28 rfl 1 rfl ?_
      refine g_iload_n (pc := 29) hX d_Mo_strike_29 rfl 0 rfl ?_
      obtain ⟨o5, e5, h⟩ := zbind h
      refine g_cvI (pc := 30) (w1 := []) (w2 := []) (st := []) (w' := (zwM c q x)) hX zk_Mo_canAct zs_Mo_canAct zL_Mo_197 (c_Mo_canAct c q x o4 e5) rfl rfl rfl rfl (zself _) (zself _).symm 0 10 rfl rfl rfl d_Mo_strike_30 ?_
      refine g_if_ne (pc := 33) (tgt := 42) hX d_Mo_strike_33 (by decide) h (fun c6 h => ?_) (fun c6 h => ?_)
      · refine g_aload_n (pc := 42) hX d_Mo_strike_42 rfl 1 rfl ?_
        refine gf_Mo_143 (pc := 43) (v := .int ((x.1 24))) hX 0 rfl rfl d_Mo_strike_43 ?_
        refine g_iconst (pc := 46) hX d_Mo_strike_46 zc_1 ?_
        refine g_icmp_ne (pc := 47) (tgt := 56) hX d_Mo_strike_47 (by decide) h (fun c7 h => ?_) (fun c7 h => ?_)
        · refine g_aload_n (pc := 56) hX d_Mo_strike_56 rfl 1 rfl ?_
          refine gf_Mo_13 (pc := 57) (v := .ref ((q 2))) hX 0 rfl rfl d_Mo_strike_57 ?_
          refine g_iload_n (pc := 60) hX d_Mo_strike_60 rfl 2 rfl ?_
          refine g_iald (pc := 61) (f := (x.2 1)) hX 2 rfl h d_Mo_strike_61 (fun h => ?_)
          refine g_aload_n (pc := 62) hX d_Mo_strike_62 rfl 1 rfl ?_
          refine gf_Mo_13 (pc := 63) (v := .ref ((q 2))) hX 0 rfl rfl d_Mo_strike_63 ?_
          refine g_iload_n (pc := 66) hX d_Mo_strike_66 rfl 0 rfl ?_
          refine g_iald (pc := 67) (f := (x.2 1)) hX 2 rfl h d_Mo_strike_67 (fun h => ?_)
          refine g_icmp_eq (pc := 68) (tgt := 98) hX d_Mo_strike_68 (by decide) h (fun c8 h => ?_) (fun c8 h => ?_)
          · refine g_aload_n (pc := 98) hX d_Mo_strike_98 rfl 1 rfl ?_
            refine g_bipush (pc := 99) hX d_Mo_strike_99 ze_7 ?_
            obtain ⟨o9, e9, h⟩ := zbind h
            refine g_cvI (pc := 101) (w1 := []) (w2 := []) (st := []) (w' := (zwM c q o9.2)) hX zk_Mo_refuses zs_Mo_refuses zL_Mo_172 (c_Mo_refuses c q x ((7 : Int32)) e9) rfl rfl rfl rfl (zself _) (zself _).symm 0 10 rfl rfl rfl d_Mo_strike_101 ?_
            obtain rfl := Option.some.inj h
            exact g_iret (pc := 104) hX hR d_Mo_strike_104
          · refine g_aload_n (pc := 71) hX d_Mo_strike_71 rfl 1 rfl ?_
            refine g_iload_n (pc := 72) hX d_Mo_strike_72 rfl 2 rfl ?_
            obtain ⟨o10, e10, h⟩ := zbind h
            refine g_cvI (pc := 73) (w1 := []) (w2 := []) (st := []) (w' := (zwM c q x)) hX zk_Mo_isDown zs_Mo_isDown zL_Mo_110 (c_Mo_isDown c q x l1 e10) rfl rfl rfl rfl (zself _) (zself _).symm 0 10 rfl rfl rfl d_Mo_strike_73 ?_
            refine g_if_ne (pc := 76) (tgt := 98) hX d_Mo_strike_76 (by decide) h (fun c11 h => ?_) (fun c11 h => ?_)
            · refine g_aload_n (pc := 98) hX d_Mo_strike_98 rfl 1 rfl ?_
              refine g_bipush (pc := 99) hX d_Mo_strike_99 ze_7 ?_
              obtain ⟨o12, e12, h⟩ := zbind h
              refine g_cvI (pc := 101) (w1 := []) (w2 := []) (st := []) (w' := (zwM c q o12.2)) hX zk_Mo_refuses zs_Mo_refuses zL_Mo_172 (c_Mo_refuses c q x ((7 : Int32)) e12) rfl rfl rfl rfl (zself _) (zself _).symm 0 10 rfl rfl rfl d_Mo_strike_101 ?_
              obtain rfl := Option.some.inj h
              exact g_iret (pc := 104) hX hR d_Mo_strike_104
            · refine g_aload_n (pc := 79) hX d_Mo_strike_79 rfl 1 rfl ?_
              refine g_aload_n (pc := 80) hX d_Mo_strike_80 rfl 1 rfl ?_
              refine gf_Mo_16 (pc := 81) (v := .ref ((q 3))) hX 0 rfl rfl d_Mo_strike_81 ?_
              refine g_iload_n (pc := 84) hX d_Mo_strike_84 rfl 0 rfl ?_
              refine g_iald (pc := 85) (f := (x.2 2)) hX 3 rfl h d_Mo_strike_85 (fun h => ?_)
              refine g_aload_n (pc := 86) hX d_Mo_strike_86 rfl 1 rfl ?_
              refine gf_Mo_16 (pc := 87) (v := .ref ((q 3))) hX 0 rfl rfl d_Mo_strike_87 ?_
              refine g_iload_n (pc := 90) hX d_Mo_strike_90 rfl 2 rfl ?_
              refine g_iald (pc := 91) (f := (x.2 2)) hX 3 rfl h d_Mo_strike_91 (fun h => ?_)
              obtain ⟨o13, e13, h⟩ := zbind h
              refine g_cvI (pc := 92) (w1 := []) (w2 := []) (st := []) (w' := (zwM c q x)) hX zk_Mo_areNeighbors zs_Mo_areNeighbors zL_Mo_215 (c_Mo_areNeighbors c q x ((((x.2 2)) o4.toNatClampNeg)) ((((x.2 2)) l1.toNatClampNeg)) e13) rfl rfl rfl rfl (zself _) (zself _).symm 0 10 rfl rfl rfl d_Mo_strike_92 ?_
              refine g_if_ne (pc := 95) (tgt := 105) hX d_Mo_strike_95 (by decide) h (fun c14 h => ?_) (fun c14 h => ?_)
              · refine g_aload_n (pc := 105) hX d_Mo_strike_105 rfl 1 rfl ?_
                obtain ⟨o15, e15, h⟩ := zbind h
                refine g_cvV (pc := 106) (w1 := []) (w2 := []) (st := []) (w' := (zwM c q o15)) hX zk_Mo_remembers zs_Mo_remembers zL_Mo_175 (c_Mo_remembers c q x e15) rfl rfl rfl rfl (zself _) (zself _).symm 0 10 rfl rfl rfl d_Mo_strike_106 ?_
                refine g_aload_n (pc := 109) hX d_Mo_strike_109 rfl 1 rfl ?_
                refine g_iconst (pc := 110) hX d_Mo_strike_110 zc_1 ?_
                refine pf_Mo_143 (pc := 111) (w2 := (zwM c q (((upd o15.1 24 ((1 : Int32))), o15.2)))) hX 0 rfl rfl (su_Mo_0_24 c q o15 ((1 : Int32))) d_Mo_strike_111 ?_
                refine g_aload_n (pc := 114) hX d_Mo_strike_114 rfl 1 rfl ?_
                refine g_dup (pc := 115) hX d_Mo_strike_115 rfl ?_
                refine gf_Mo_218 (pc := 116) (v := .int ((o15.1 28))) hX 0 rfl rfl d_Mo_strike_116 ?_
                refine g_iconst (pc := 119) hX d_Mo_strike_119 zc_1 ?_
                refine g_iadd (pc := 120) hX d_Mo_strike_120 ?_
                refine pf_Mo_218 (pc := 121) (w2 := (zwM c q (((upd ((upd o15.1 24 ((1 : Int32)))) 28 (((o15.1 28) + (1 : Int32)))), o15.2)))) hX 0 rfl rfl (su_Mo_0_28 c q (((upd o15.1 24 ((1 : Int32))), o15.2)) (((o15.1 28) + (1 : Int32)))) d_Mo_strike_121 ?_
                refine g_aload_n (pc := 124) hX d_Mo_strike_124 rfl 1 rfl ?_
                refine g_bipush (pc := 125) hX d_Mo_strike_125 ze_10 ?_
                refine g_iload_n (pc := 127) hX d_Mo_strike_127 rfl 0 rfl ?_
                refine g_iload_n (pc := 128) hX d_Mo_strike_128 rfl 2 rfl ?_
                obtain ⟨o16, e16, h⟩ := zbind h
                refine g_cvV (pc := 129) (w1 := []) (w2 := []) (st := []) (w' := (zwM c q o16)) hX zk_Mo_notes zs_Mo_notes zL_Mo_102 (c_Mo_notes c q (((upd ((upd o15.1 24 ((1 : Int32)))) 28 (((o15.1 28) + (1 : Int32)))), o15.2)) ((10 : Int32)) o4 l1 e16) rfl rfl rfl rfl (zself _) (zself _).symm 0 10 rfl rfl rfl d_Mo_strike_129 ?_
                refine g_aload_n (pc := 132) hX d_Mo_strike_132 rfl 1 rfl ?_
                refine g_iload_n (pc := 133) hX d_Mo_strike_133 rfl 2 rfl ?_
                refine g_iconst (pc := 134) hX d_Mo_strike_134 zc_5 ?_
                refine g_iconst (pc := 135) hX d_Mo_strike_135 zc_0 ?_
                obtain ⟨o17, e17, h⟩ := zbind h
                refine g_cvI (pc := 136) (w1 := []) (w2 := []) (st := []) (w' := (zwM c q o17.2)) hX zk_Mo_harms zs_Mo_harms zL_Mo_159 (c_Mo_harms c q o16 l1 ((5 : Int32)) ((0 : Int32)) e17) rfl rfl rfl rfl (zself _) (zself _).symm 0 10 rfl rfl rfl d_Mo_strike_136 ?_
                obtain rfl := Option.some.inj h
                exact g_iret (pc := 139) hX hR d_Mo_strike_139
              · refine g_aload_n (pc := 98) hX d_Mo_strike_98 rfl 1 rfl ?_
                refine g_bipush (pc := 99) hX d_Mo_strike_99 ze_7 ?_
                obtain ⟨o18, e18, h⟩ := zbind h
                refine g_cvI (pc := 101) (w1 := []) (w2 := []) (st := []) (w' := (zwM c q o18.2)) hX zk_Mo_refuses zs_Mo_refuses zL_Mo_172 (c_Mo_refuses c q x ((7 : Int32)) e18) rfl rfl rfl rfl (zself _) (zself _).symm 0 10 rfl rfl rfl d_Mo_strike_101 ?_
                obtain rfl := Option.some.inj h
                exact g_iret (pc := 104) hX hR d_Mo_strike_104
        · refine g_aload_n (pc := 50) hX d_Mo_strike_50 rfl 1 rfl ?_
          refine g_iconst (pc := 51) hX d_Mo_strike_51 zc_4 ?_
          obtain ⟨o19, e19, h⟩ := zbind h
          refine g_cvI (pc := 52) (w1 := []) (w2 := []) (st := []) (w' := (zwM c q o19.2)) hX zk_Mo_refuses zs_Mo_refuses zL_Mo_172 (c_Mo_refuses c q x ((4 : Int32)) e19) rfl rfl rfl rfl (zself _) (zself _).symm 0 10 rfl rfl rfl d_Mo_strike_52 ?_
          obtain rfl := Option.some.inj h
          exact g_iret (pc := 55) hX hR d_Mo_strike_55
      · refine g_aload_n (pc := 36) hX d_Mo_strike_36 rfl 1 rfl ?_
        refine g_iconst (pc := 37) hX d_Mo_strike_37 zc_3 ?_
        obtain ⟨o20, e20, h⟩ := zbind h
        refine g_cvI (pc := 38) (w1 := []) (w2 := []) (st := []) (w' := (zwM c q o20.2)) hX zk_Mo_refuses zs_Mo_refuses zL_Mo_172 (c_Mo_refuses c q x ((3 : Int32)) e20) rfl rfl rfl rfl (zself _) (zself _).symm 0 10 rfl rfl rfl d_Mo_strike_38 ?_
        obtain rfl := Option.some.inj h
        exact g_iret (pc := 41) hX hR d_Mo_strike_41
    · refine g_aload_n (pc := 17) hX d_Mo_strike_17 rfl 0 rfl ?_
      refine g_iconst (pc := 18) hX d_Mo_strike_18 zc_1 ?_
      obtain ⟨o21, e21, h⟩ := zbind h
      refine g_cvI (pc := 19) (w1 := []) (w2 := []) (st := []) (w' := (zwM c q o21.2)) hX zk_Mo_refuses zs_Mo_refuses zL_Mo_172 (c_Mo_refuses c q x ((1 : Int32)) e21) rfl rfl rfl rfl (zself _) (zself _).symm 0 10 rfl rfl rfl d_Mo_strike_19 ?_
      obtain rfl := Option.some.inj h
      exact g_iret (pc := 22) hX hR d_Mo_strike_22
  · refine g_iconst (pc := 8) hX d_Mo_strike_8 zc_m1 ?_
    obtain rfl := Option.some.inj h
    exact g_iret (pc := 9) hX hR d_Mo_strike_9)
theorem d_Mo_isByte_0 : decode zb_Mo_isByte 0 = .ok (.iload_n 0, 1) := by decide +kernel
theorem d_Mo_isByte_1 : decode zb_Mo_isByte 1 = .ok (.iconst 0, 1) := by decide +kernel
theorem d_Mo_isByte_2 : decode zb_Mo_isByte 2 = .ok (.bipush 127, 2) := by decide +kernel
theorem d_Mo_isByte_4 : decode zb_Mo_isByte 4 = .ok (.invokestatic 84, 3) := by decide +kernel
theorem d_Mo_isByte_7 : decode zb_Mo_isByte 7 = .ok (.ireturn, 1) := by decide +kernel
def k_Mo_isByte (l0 : Int32) : Option (Int32) := (k_Mo_isBetween l0 ((0 : Int32)) ((127 : Int32))).bind fun o1 => (if o1 = 0 ∨ o1 = 1 then some o1 else none)
set_option maxRecDepth 20000 in
theorem c_Mo_isByte (c : zY) (l0 : Int32) {out : Int32} (h : k_Mo_isByte l0 = some out) : KM zy_Mo_isByte zb_Mo_isByte 1 (some .boolean) 1 c [.int l0] [] [] (some (.int out)) := zK_of zp_Mo rfl (Nat.le_of_ble_eq_true rfl) rfl (fun X hX hR => by
  show Go X [] [(0, .int l0)] 0 []
  rw [k_Mo_isByte] at h
  refine g_iload_n (pc := 0) hX d_Mo_isByte_0 rfl 0 rfl ?_
  refine g_iconst (pc := 1) hX d_Mo_isByte_1 zc_0 ?_
  refine g_bipush (pc := 2) hX d_Mo_isByte_2 ze_127 ?_
  obtain ⟨o1, e1, h⟩ := zbind h
  refine g_csI (pc := 4) (st := []) hX zk_Mo_isBetween zL_Mo_84 (c_Mo_isBetween c l0 ((0 : Int32)) ((127 : Int32)) e1) rfl rfl rfl rfl rfl d_Mo_isByte_4 ?_
  obtain ⟨hb2, h⟩ := zifb h
  obtain rfl := Option.some.inj h
  exact g_zret (pc := 7) hX hR hb2 d_Mo_isByte_7)
theorem d_Mo_comes_0 : decode zb_Mo_comes 0 = .ok (.iload_n 2, 1) := by decide +kernel
theorem d_Mo_comes_1 : decode zb_Mo_comes 1 = .ok (.ifCond .ne 4, 3) := by decide +kernel
theorem d_Mo_comes_4 : decode zb_Mo_comes 4 = .ok (.return_, 1) := by decide +kernel
theorem d_Mo_comes_5 : decode zb_Mo_comes 5 = .ok (.aload_n 0, 1) := by decide +kernel
theorem d_Mo_comes_6 : decode zb_Mo_comes 6 = .ok (.getfield 65, 3) := by decide +kernel
theorem d_Mo_comes_9 : decode zb_Mo_comes 9 = .ok (.aload_n 0, 1) := by decide +kernel
theorem d_Mo_comes_10 : decode zb_Mo_comes 10 = .ok (.getfield 224, 3) := by decide +kernel
theorem d_Mo_comes_13 : decode zb_Mo_comes 13 = .ok (.iload_n 1, 1) := by decide +kernel
theorem d_Mo_comes_14 : decode zb_Mo_comes 14 = .ok (.iastore, 1) := by decide +kernel
theorem d_Mo_comes_15 : decode zb_Mo_comes 15 = .ok (.aload_n 0, 1) := by decide +kernel
theorem d_Mo_comes_16 : decode zb_Mo_comes 16 = .ok (.dup, 1) := by decide +kernel
theorem d_Mo_comes_17 : decode zb_Mo_comes 17 = .ok (.getfield 224, 3) := by decide +kernel
theorem d_Mo_comes_20 : decode zb_Mo_comes 20 = .ok (.iconst 1, 1) := by decide +kernel
theorem d_Mo_comes_21 : decode zb_Mo_comes 21 = .ok (.iadd, 1) := by decide +kernel
theorem d_Mo_comes_22 : decode zb_Mo_comes 22 = .ok (.putfield 224, 3) := by decide +kernel
theorem d_Mo_comes_25 : decode zb_Mo_comes 25 = .ok (.return_, 1) := by decide +kernel
def k_Mo_comes (x : zsM) (l1 : Int32) (l2 : Int32) : Option (zsM) := (if l2 = 0 then some x else (if zOut ((x.1 36)) 40 then none else some (((upd x.1 36 (((x.1 36) + (1 : Int32)))), (va_up x.2 34 (upd ((x.2 34)) ((x.1 36)).toNatClampNeg l1))))))
set_option maxRecDepth 20000 in
theorem c_Mo_comes (c : zY) (q : Nat → Nat) (x : zsM) (l1 : Int32) (l2 : Int32) {out : zsM} (h : k_Mo_comes x l1 l2 = some out) : KM zy_Mo_comes zb_Mo_comes 3 none 0 c [.ref ((q 0)), .int l1, .int l2] (zwM c q x) (zwM c q out) none := zK_of zp_Mo rfl (Nat.le_of_ble_eq_true rfl) (zq_Mo c q _ _) (fun X hX hR => by
  show Go X (zwM c q x) [(0, .ref ((q 0))), (1, .int l1), (2, .int l2)] 0 []
  rw [k_Mo_comes] at h
  refine g_iload_n (pc := 0) hX d_Mo_comes_0 rfl 2 rfl ?_
  refine g_if_ne (pc := 1) (tgt := 5) hX d_Mo_comes_1 (by decide) h (fun c1 h => ?_) (fun c1 h => ?_)
  · refine g_aload_n (pc := 5) hX d_Mo_comes_5 rfl 0 rfl ?_
    refine gf_Mo_65 (pc := 6) (v := .ref ((q 18))) hX 0 rfl rfl d_Mo_comes_6 ?_
    refine g_aload_n (pc := 9) hX d_Mo_comes_9 rfl 0 rfl ?_
    refine gf_Mo_224 (pc := 10) (v := .int ((x.1 36))) hX 0 rfl rfl d_Mo_comes_10 ?_
    refine g_iload_n (pc := 13) hX d_Mo_comes_13 rfl 1 rfl ?_
    refine g_iast (pc := 14) (f := (x.2 34)) (w' := (zwM c q ((x.1, (va_up x.2 34 (upd ((x.2 34)) ((x.1 36)).toNatClampNeg l1)))))) hX 18 rfl h (sa_Mo_18 c q x (upd ((x.2 34)) ((x.1 36)).toNatClampNeg l1)) d_Mo_comes_14 (fun h => ?_)
    refine g_aload_n (pc := 15) hX d_Mo_comes_15 rfl 0 rfl ?_
    refine g_dup (pc := 16) hX d_Mo_comes_16 rfl ?_
    refine gf_Mo_224 (pc := 17) (v := .int ((x.1 36))) hX 0 rfl rfl d_Mo_comes_17 ?_
    refine g_iconst (pc := 20) hX d_Mo_comes_20 zc_1 ?_
    refine g_iadd (pc := 21) hX d_Mo_comes_21 ?_
    refine pf_Mo_224 (pc := 22) (w2 := (zwM c q (((upd x.1 36 (((x.1 36) + (1 : Int32)))), (va_up x.2 34 (upd ((x.2 34)) ((x.1 36)).toNatClampNeg l1)))))) hX 0 rfl rfl (su_Mo_0_36 c q ((x.1, (va_up x.2 34 (upd ((x.2 34)) ((x.1 36)).toNatClampNeg l1)))) (((x.1 36) + (1 : Int32)))) d_Mo_comes_22 ?_
    obtain rfl := Option.some.inj h
    exact g_vret (pc := 25) hX hR d_Mo_comes_25
  · obtain rfl := Option.some.inj h
    exact g_vret (pc := 4) hX hR d_Mo_comes_4)
theorem d_Mo_feed_0 : decode zb_Mo_feed 0 = .ok (.iload_n 1, 1) := by decide +kernel
theorem d_Mo_feed_1 : decode zb_Mo_feed 1 = .ok (.iconst 1, 1) := by decide +kernel
theorem d_Mo_feed_2 : decode zb_Mo_feed 2 = .ok (.iconst 5, 1) := by decide +kernel
theorem d_Mo_feed_3 : decode zb_Mo_feed 3 = .ok (.invokestatic 84, 3) := by decide +kernel
theorem d_Mo_feed_6 : decode zb_Mo_feed 6 = .ok (.ifCond .eq 41, 3) := by decide +kernel
theorem d_Mo_feed_9 : decode zb_Mo_feed 9 = .ok (.iload_n 2, 1) := by decide +kernel
theorem d_Mo_feed_10 : decode zb_Mo_feed 10 = .ok (.invokestatic 221, 3) := by decide +kernel
theorem d_Mo_feed_13 : decode zb_Mo_feed 13 = .ok (.ifCond .eq 34, 3) := by decide +kernel
theorem d_Mo_feed_16 : decode zb_Mo_feed 16 = .ok (.iload_n 3, 1) := by decide +kernel
theorem d_Mo_feed_17 : decode zb_Mo_feed 17 = .ok (.invokestatic 221, 3) := by decide +kernel
theorem d_Mo_feed_20 : decode zb_Mo_feed 20 = .ok (.ifCond .eq 27, 3) := by decide +kernel
theorem d_Mo_feed_23 : decode zb_Mo_feed 23 = .ok (.iload 4, 2) := by decide +kernel
theorem d_Mo_feed_25 : decode zb_Mo_feed 25 = .ok (.invokestatic 221, 3) := by decide +kernel
theorem d_Mo_feed_28 : decode zb_Mo_feed 28 = .ok (.ifCond .eq 19, 3) := by decide +kernel
theorem d_Mo_feed_31 : decode zb_Mo_feed 31 = .ok (.iload 5, 2) := by decide +kernel
theorem d_Mo_feed_33 : decode zb_Mo_feed 33 = .ok (.invokestatic 221, 3) := by decide +kernel
theorem d_Mo_feed_36 : decode zb_Mo_feed 36 = .ok (.ifCond .eq 11, 3) := by decide +kernel
theorem d_Mo_feed_39 : decode zb_Mo_feed 39 = .ok (.iload 6, 2) := by decide +kernel
theorem d_Mo_feed_41 : decode zb_Mo_feed 41 = .ok (.invokestatic 221, 3) := by decide +kernel
theorem d_Mo_feed_44 : decode zb_Mo_feed 44 = .ok (.ifCond .ne 6, 3) := by decide +kernel
theorem d_Mo_feed_47 : decode zb_Mo_feed 47 = .ok (.bipush (-2), 2) := by decide +kernel
theorem d_Mo_feed_49 : decode zb_Mo_feed 49 = .ok (.ireturn, 1) := by decide +kernel
theorem d_Mo_feed_50 : decode zb_Mo_feed 50 = .ok (.aload_n 0, 1) := by decide +kernel
theorem d_Mo_feed_51 : decode zb_Mo_feed 51 = .ok (.getfield 224, 3) := by decide +kernel
theorem d_Mo_feed_54 : decode zb_Mo_feed 54 = .ok (.iload_n 1, 1) := by decide +kernel
theorem d_Mo_feed_55 : decode zb_Mo_feed 55 = .ok (.iadd, 1) := by decide +kernel
theorem d_Mo_feed_56 : decode zb_Mo_feed 56 = .ok (.bipush 40, 2) := by decide +kernel
theorem d_Mo_feed_58 : decode zb_Mo_feed 58 = .ok (.if_icmp .le 6, 3) := by decide +kernel
theorem d_Mo_feed_61 : decode zb_Mo_feed 61 = .ok (.bipush (-4), 2) := by decide +kernel
theorem d_Mo_feed_63 : decode zb_Mo_feed 63 = .ok (.ireturn, 1) := by decide +kernel
theorem d_Mo_feed_64 : decode zb_Mo_feed 64 = .ok (.aload_n 0, 1) := by decide +kernel
theorem d_Mo_feed_65 : decode zb_Mo_feed 65 = .ok (.iload_n 2, 1) := by decide +kernel
theorem d_Mo_feed_66 : decode zb_Mo_feed 66 = .ok (.iconst 1, 1) := by decide +kernel
theorem d_Mo_feed_67 : decode zb_Mo_feed 67 = .ok (.invokevirtual 227, 3) := by decide +kernel
theorem d_Mo_feed_70 : decode zb_Mo_feed 70 = .ok (.aload_n 0, 1) := by decide +kernel
theorem d_Mo_feed_71 : decode zb_Mo_feed 71 = .ok (.iload_n 3, 1) := by decide +kernel
theorem d_Mo_feed_72 : decode zb_Mo_feed 72 = .ok (.iload_n 1, 1) := by decide +kernel
theorem d_Mo_feed_73 : decode zb_Mo_feed 73 = .ok (.iconst 1, 1) := by decide +kernel
theorem d_Mo_feed_74 : decode zb_Mo_feed 74 = .ok (.if_icmp .le 7, 3) := by decide +kernel
theorem d_Mo_feed_77 : decode zb_Mo_feed 77 = .ok (.iconst 1, 1) := by decide +kernel
theorem d_Mo_feed_78 : decode zb_Mo_feed 78 = .ok (.goto 4, 3) := by decide +kernel
theorem d_Mo_feed_81 : decode zb_Mo_feed 81 = .ok (.iconst 0, 1) := by decide +kernel
theorem d_Mo_feed_82 : decode zb_Mo_feed 82 = .ok (.invokevirtual 227, 3) := by decide +kernel
theorem d_Mo_feed_85 : decode zb_Mo_feed 85 = .ok (.aload_n 0, 1) := by decide +kernel
theorem d_Mo_feed_86 : decode zb_Mo_feed 86 = .ok (.iload 4, 2) := by decide +kernel
theorem d_Mo_feed_88 : decode zb_Mo_feed 88 = .ok (.iload_n 1, 1) := by decide +kernel
theorem d_Mo_feed_89 : decode zb_Mo_feed 89 = .ok (.iconst 2, 1) := by decide +kernel
theorem d_Mo_feed_90 : decode zb_Mo_feed 90 = .ok (.if_icmp .le 7, 3) := by decide +kernel
theorem d_Mo_feed_93 : decode zb_Mo_feed 93 = .ok (.iconst 1, 1) := by decide +kernel
theorem d_Mo_feed_94 : decode zb_Mo_feed 94 = .ok (.goto 4, 3) := by decide +kernel
theorem d_Mo_feed_97 : decode zb_Mo_feed 97 = .ok (.iconst 0, 1) := by decide +kernel
theorem d_Mo_feed_98 : decode zb_Mo_feed 98 = .ok (.invokevirtual 227, 3) := by decide +kernel
theorem d_Mo_feed_101 : decode zb_Mo_feed 101 = .ok (.aload_n 0, 1) := by decide +kernel
theorem d_Mo_feed_102 : decode zb_Mo_feed 102 = .ok (.iload 5, 2) := by decide +kernel
theorem d_Mo_feed_104 : decode zb_Mo_feed 104 = .ok (.iload_n 1, 1) := by decide +kernel
theorem d_Mo_feed_105 : decode zb_Mo_feed 105 = .ok (.iconst 3, 1) := by decide +kernel
theorem d_Mo_feed_106 : decode zb_Mo_feed 106 = .ok (.if_icmp .le 7, 3) := by decide +kernel
theorem d_Mo_feed_109 : decode zb_Mo_feed 109 = .ok (.iconst 1, 1) := by decide +kernel
theorem d_Mo_feed_110 : decode zb_Mo_feed 110 = .ok (.goto 4, 3) := by decide +kernel
theorem d_Mo_feed_113 : decode zb_Mo_feed 113 = .ok (.iconst 0, 1) := by decide +kernel
theorem d_Mo_feed_114 : decode zb_Mo_feed 114 = .ok (.invokevirtual 227, 3) := by decide +kernel
theorem d_Mo_feed_117 : decode zb_Mo_feed 117 = .ok (.aload_n 0, 1) := by decide +kernel
theorem d_Mo_feed_118 : decode zb_Mo_feed 118 = .ok (.iload 6, 2) := by decide +kernel
theorem d_Mo_feed_120 : decode zb_Mo_feed 120 = .ok (.iload_n 1, 1) := by decide +kernel
theorem d_Mo_feed_121 : decode zb_Mo_feed 121 = .ok (.iconst 4, 1) := by decide +kernel
theorem d_Mo_feed_122 : decode zb_Mo_feed 122 = .ok (.if_icmp .le 7, 3) := by decide +kernel
theorem d_Mo_feed_125 : decode zb_Mo_feed 125 = .ok (.iconst 1, 1) := by decide +kernel
theorem d_Mo_feed_126 : decode zb_Mo_feed 126 = .ok (.goto 4, 3) := by decide +kernel
theorem d_Mo_feed_129 : decode zb_Mo_feed 129 = .ok (.iconst 0, 1) := by decide +kernel
theorem d_Mo_feed_130 : decode zb_Mo_feed 130 = .ok (.invokevirtual 227, 3) := by decide +kernel
theorem d_Mo_feed_133 : decode zb_Mo_feed 133 = .ok (.aload_n 0, 1) := by decide +kernel
theorem d_Mo_feed_134 : decode zb_Mo_feed 134 = .ok (.getfield 224, 3) := by decide +kernel
theorem d_Mo_feed_137 : decode zb_Mo_feed 137 = .ok (.ireturn, 1) := by decide +kernel
def k_Mo_feed_114 (l1 : Int32) (l2 : Int32) (l3 : Int32) (l4 : Int32) (l5 : Int32) (l6 : Int32) (s0 : Int32) (s1 : Int32) (x : zsM) : Option (Int32 × zsM) := (k_Mo_comes x s1 s0).bind fun o20 => (if (4 : Int32) < l1 then (k_Mo_comes o20 l6 ((1 : Int32))).bind fun o23 => some ((o23.1 36), o23) else (k_Mo_comes o20 l6 ((0 : Int32))).bind fun o22 => some ((o22.1 36), o22))
set_option maxRecDepth 20000 in
theorem w_Mo_feed_114 {X : zX} {c : zY} {q : Nat → Nat} {l1 : Int32} {l2 : Int32} {l3 : Int32} {l4 : Int32} {l5 : Int32} {l6 : Int32} {out : Int32 × zsM} (hX : Ok X zr_Mo zb_Mo_feed 7 2 c) (hR : Rt X (some .int) (some (.int out.1)) (zwM c q out.2)) : ∀ (s0 : Int32) (s1 : Int32) (x : zsM), k_Mo_feed_114 l1 l2 l3 l4 l5 l6 s0 s1 x = some out → Go X (zwM c q x) [(0, .ref ((q 0))), (1, .int l1), (6, .int l6)] 114 [.int s0, .int s1, .ref ((q 0))] := by
  intro s0 s1 x h
  rw [k_Mo_feed_114] at h
  obtain ⟨o20, e20, h⟩ := zbind h
  refine g_cvV (pc := 114) (w1 := []) (w2 := []) (st := []) (w' := (zwM c q o20)) hX zk_Mo_comes zs_Mo_comes zL_Mo_227 (c_Mo_comes c q x s1 s0 e20) rfl rfl rfl rfl (zself _) (zself _).symm 0 10 rfl rfl rfl d_Mo_feed_114 ?_
  refine g_aload_n (pc := 117) hX d_Mo_feed_117 rfl 0 rfl ?_
  refine g_iload (pc := 118) hX d_Mo_feed_118 2 rfl ?_
  refine g_iload_n (pc := 120) hX d_Mo_feed_120 rfl 1 rfl ?_
  refine g_iconst (pc := 121) hX d_Mo_feed_121 zc_4 ?_
  refine g_icmp_le (pc := 122) (tgt := 129) hX d_Mo_feed_122 (by decide) h (fun c21 h => ?_) (fun c21 h => ?_)
  · refine g_iconst (pc := 129) hX d_Mo_feed_129 zc_0 ?_
    obtain ⟨o22, e22, h⟩ := zbind h
    refine g_cvV (pc := 130) (w1 := []) (w2 := []) (st := []) (w' := (zwM c q o22)) hX zk_Mo_comes zs_Mo_comes zL_Mo_227 (c_Mo_comes c q o20 l6 ((0 : Int32)) e22) rfl rfl rfl rfl (zself _) (zself _).symm 0 10 rfl rfl rfl d_Mo_feed_130 ?_
    refine g_aload_n (pc := 133) hX d_Mo_feed_133 rfl 0 rfl ?_
    refine gf_Mo_224 (pc := 134) (v := .int ((o22.1 36))) hX 0 rfl rfl d_Mo_feed_134 ?_
    obtain rfl := Option.some.inj h
    exact g_iret (pc := 137) hX hR d_Mo_feed_137
  · refine g_iconst (pc := 125) hX d_Mo_feed_125 zc_1 ?_
    refine g_goto (pc := 126) (tgt := 130) hX d_Mo_feed_126 (by decide) ?_
    obtain ⟨o23, e23, h⟩ := zbind h
    refine g_cvV (pc := 130) (w1 := []) (w2 := []) (st := []) (w' := (zwM c q o23)) hX zk_Mo_comes zs_Mo_comes zL_Mo_227 (c_Mo_comes c q o20 l6 ((1 : Int32)) e23) rfl rfl rfl rfl (zself _) (zself _).symm 0 10 rfl rfl rfl d_Mo_feed_130 ?_
    refine g_aload_n (pc := 133) hX d_Mo_feed_133 rfl 0 rfl ?_
    refine gf_Mo_224 (pc := 134) (v := .int ((o23.1 36))) hX 0 rfl rfl d_Mo_feed_134 ?_
    obtain rfl := Option.some.inj h
    exact g_iret (pc := 137) hX hR d_Mo_feed_137
def k_Mo_feed_98 (l1 : Int32) (l2 : Int32) (l3 : Int32) (l4 : Int32) (l5 : Int32) (l6 : Int32) (s0 : Int32) (s1 : Int32) (x : zsM) : Option (Int32 × zsM) := (k_Mo_comes x s1 s0).bind fun o18 => (if (3 : Int32) < l1 then k_Mo_feed_114 l1 l2 l3 l4 l5 l6 ((1 : Int32)) l5 o18 else k_Mo_feed_114 l1 l2 l3 l4 l5 l6 ((0 : Int32)) l5 o18)
set_option maxRecDepth 20000 in
theorem w_Mo_feed_98 {X : zX} {c : zY} {q : Nat → Nat} {l1 : Int32} {l2 : Int32} {l3 : Int32} {l4 : Int32} {l5 : Int32} {l6 : Int32} {out : Int32 × zsM} (hX : Ok X zr_Mo zb_Mo_feed 7 2 c) (hR : Rt X (some .int) (some (.int out.1)) (zwM c q out.2)) : ∀ (s0 : Int32) (s1 : Int32) (x : zsM), k_Mo_feed_98 l1 l2 l3 l4 l5 l6 s0 s1 x = some out → Go X (zwM c q x) [(0, .ref ((q 0))), (1, .int l1), (5, .int l5), (6, .int l6)] 98 [.int s0, .int s1, .ref ((q 0))] := by
  intro s0 s1 x h
  rw [k_Mo_feed_98] at h
  obtain ⟨o18, e18, h⟩ := zbind h
  refine g_cvV (pc := 98) (w1 := []) (w2 := []) (st := []) (w' := (zwM c q o18)) hX zk_Mo_comes zs_Mo_comes zL_Mo_227 (c_Mo_comes c q x s1 s0 e18) rfl rfl rfl rfl (zself _) (zself _).symm 0 10 rfl rfl rfl d_Mo_feed_98 ?_
  refine g_aload_n (pc := 101) hX d_Mo_feed_101 rfl 0 rfl ?_
  refine g_iload (pc := 102) hX d_Mo_feed_102 2 rfl ?_
  refine g_iload_n (pc := 104) hX d_Mo_feed_104 rfl 1 rfl ?_
  refine g_iconst (pc := 105) hX d_Mo_feed_105 zc_3 ?_
  refine g_icmp_le (pc := 106) (tgt := 113) hX d_Mo_feed_106 (by decide) h (fun c19 h => ?_) (fun c19 h => ?_)
  · refine g_iconst (pc := 113) hX d_Mo_feed_113 zc_0 ?_
    refine g_ls (L' := [(0, .ref ((q 0))), (1, .int l1), (6, .int l6)]) [0, 1, 3] rfl ?_
    exact w_Mo_feed_114 hX hR _ _ _ h
  · refine g_iconst (pc := 109) hX d_Mo_feed_109 zc_1 ?_
    refine g_goto (pc := 110) (tgt := 114) hX d_Mo_feed_110 (by decide) ?_
    refine g_ls (L' := [(0, .ref ((q 0))), (1, .int l1), (6, .int l6)]) [0, 1, 3] rfl ?_
    exact w_Mo_feed_114 hX hR _ _ _ h
def k_Mo_feed_82 (l1 : Int32) (l2 : Int32) (l3 : Int32) (l4 : Int32) (l5 : Int32) (l6 : Int32) (s0 : Int32) (s1 : Int32) (x : zsM) : Option (Int32 × zsM) := (k_Mo_comes x s1 s0).bind fun o16 => (if (2 : Int32) < l1 then k_Mo_feed_98 l1 l2 l3 l4 l5 l6 ((1 : Int32)) l4 o16 else k_Mo_feed_98 l1 l2 l3 l4 l5 l6 ((0 : Int32)) l4 o16)
set_option maxRecDepth 20000 in
theorem w_Mo_feed_82 {X : zX} {c : zY} {q : Nat → Nat} {l1 : Int32} {l2 : Int32} {l3 : Int32} {l4 : Int32} {l5 : Int32} {l6 : Int32} {out : Int32 × zsM} (hX : Ok X zr_Mo zb_Mo_feed 7 2 c) (hR : Rt X (some .int) (some (.int out.1)) (zwM c q out.2)) : ∀ (s0 : Int32) (s1 : Int32) (x : zsM), k_Mo_feed_82 l1 l2 l3 l4 l5 l6 s0 s1 x = some out → Go X (zwM c q x) [(0, .ref ((q 0))), (1, .int l1), (4, .int l4), (5, .int l5), (6, .int l6)] 82 [.int s0, .int s1, .ref ((q 0))] := by
  intro s0 s1 x h
  rw [k_Mo_feed_82] at h
  obtain ⟨o16, e16, h⟩ := zbind h
  refine g_cvV (pc := 82) (w1 := []) (w2 := []) (st := []) (w' := (zwM c q o16)) hX zk_Mo_comes zs_Mo_comes zL_Mo_227 (c_Mo_comes c q x s1 s0 e16) rfl rfl rfl rfl (zself _) (zself _).symm 0 10 rfl rfl rfl d_Mo_feed_82 ?_
  refine g_aload_n (pc := 85) hX d_Mo_feed_85 rfl 0 rfl ?_
  refine g_iload (pc := 86) hX d_Mo_feed_86 2 rfl ?_
  refine g_iload_n (pc := 88) hX d_Mo_feed_88 rfl 1 rfl ?_
  refine g_iconst (pc := 89) hX d_Mo_feed_89 zc_2 ?_
  refine g_icmp_le (pc := 90) (tgt := 97) hX d_Mo_feed_90 (by decide) h (fun c17 h => ?_) (fun c17 h => ?_)
  · refine g_iconst (pc := 97) hX d_Mo_feed_97 zc_0 ?_
    refine g_ls (L' := [(0, .ref ((q 0))), (1, .int l1), (5, .int l5), (6, .int l6)]) [0, 1, 3, 4] rfl ?_
    exact w_Mo_feed_98 hX hR _ _ _ h
  · refine g_iconst (pc := 93) hX d_Mo_feed_93 zc_1 ?_
    refine g_goto (pc := 94) (tgt := 98) hX d_Mo_feed_94 (by decide) ?_
    refine g_ls (L' := [(0, .ref ((q 0))), (1, .int l1), (5, .int l5), (6, .int l6)]) [0, 1, 3, 4] rfl ?_
    exact w_Mo_feed_98 hX hR _ _ _ h
def k_Mo_feed (x : zsM) (l1 : Int32) (l2 : Int32) (l3 : Int32) (l4 : Int32) (l5 : Int32) (l6 : Int32) : Option (Int32 × zsM) := (k_Mo_isBetween l1 ((1 : Int32)) ((5 : Int32))).bind fun o1 => (if o1 = 0 then some ((-2 : Int32), x) else (k_Mo_isByte l2).bind fun o3 => (if o3 = 0 then some ((-2 : Int32), x) else (k_Mo_isByte l3).bind fun o5 => (if o5 = 0 then some ((-2 : Int32), x) else (k_Mo_isByte l4).bind fun o7 => (if o7 = 0 then some ((-2 : Int32), x) else (k_Mo_isByte l5).bind fun o9 => (if o9 = 0 then some ((-2 : Int32), x) else (k_Mo_isByte l6).bind fun o11 => (if o11 = 0 then some ((-2 : Int32), x) else (if (40 : Int32) < ((x.1 36) + l1) then some ((-4 : Int32), x) else (k_Mo_comes x l2 ((1 : Int32))).bind fun o14 => (if (1 : Int32) < l1 then k_Mo_feed_82 l1 l2 l3 l4 l5 l6 ((1 : Int32)) l3 o14 else k_Mo_feed_82 l1 l2 l3 l4 l5 l6 ((0 : Int32)) l3 o14))))))))
set_option maxRecDepth 20000 in
theorem c_Mo_feed (c : zY) (q : Nat → Nat) (x : zsM) (l1 : Int32) (l2 : Int32) (l3 : Int32) (l4 : Int32) (l5 : Int32) (l6 : Int32) {out : Int32 × zsM} (h : k_Mo_feed x l1 l2 l3 l4 l5 l6 = some out) : KM zy_Mo_feed zb_Mo_feed 7 (some .int) 2 c [.ref ((q 0)), .int l1, .int l2, .int l3, .int l4, .int l5, .int l6] (zwM c q x) (zwM c q out.2) (some (.int out.1)) := zK_of zp_Mo rfl (Nat.le_of_ble_eq_true rfl) (zq_Mo c q _ _) (fun X hX hR => by
  show Go X (zwM c q x) [(0, .ref ((q 0))), (1, .int l1), (2, .int l2), (3, .int l3), (4, .int l4), (5, .int l5), (6, .int l6)] 0 []
  rw [k_Mo_feed] at h
  refine g_iload_n (pc := 0) hX d_Mo_feed_0 rfl 1 rfl ?_
  refine g_iconst (pc := 1) hX d_Mo_feed_1 zc_1 ?_
  refine g_iconst (pc := 2) hX d_Mo_feed_2 zc_5 ?_
  obtain ⟨o1, e1, h⟩ := zbind h
  refine g_csI (pc := 3) (st := []) hX zk_Mo_isBetween zL_Mo_84 (c_Mo_isBetween c l1 ((1 : Int32)) ((5 : Int32)) e1) rfl rfl rfl rfl rfl d_Mo_feed_3 ?_
  refine g_if_eq (pc := 6) (tgt := 47) hX d_Mo_feed_6 (by decide) h (fun c2 h => ?_) (fun c2 h => ?_)
  · refine g_bipush (pc := 47) hX d_Mo_feed_47 ze_m2 ?_
    obtain rfl := Option.some.inj h
    exact g_iret (pc := 49) hX hR d_Mo_feed_49
  · refine g_iload_n (pc := 9) hX d_Mo_feed_9 rfl 2 rfl ?_
    obtain ⟨o3, e3, h⟩ := zbind h
    refine g_csI (pc := 10) (st := []) hX zk_Mo_isByte zL_Mo_221 (c_Mo_isByte c l2 e3) rfl rfl rfl rfl rfl d_Mo_feed_10 ?_
    refine g_if_eq (pc := 13) (tgt := 47) hX d_Mo_feed_13 (by decide) h (fun c4 h => ?_) (fun c4 h => ?_)
    · refine g_bipush (pc := 47) hX d_Mo_feed_47 ze_m2 ?_
      obtain rfl := Option.some.inj h
      exact g_iret (pc := 49) hX hR d_Mo_feed_49
    · refine g_iload_n (pc := 16) hX d_Mo_feed_16 rfl 3 rfl ?_
      obtain ⟨o5, e5, h⟩ := zbind h
      refine g_csI (pc := 17) (st := []) hX zk_Mo_isByte zL_Mo_221 (c_Mo_isByte c l3 e5) rfl rfl rfl rfl rfl d_Mo_feed_17 ?_
      refine g_if_eq (pc := 20) (tgt := 47) hX d_Mo_feed_20 (by decide) h (fun c6 h => ?_) (fun c6 h => ?_)
      · refine g_bipush (pc := 47) hX d_Mo_feed_47 ze_m2 ?_
        obtain rfl := Option.some.inj h
        exact g_iret (pc := 49) hX hR d_Mo_feed_49
      · refine g_iload (pc := 23) hX d_Mo_feed_23 4 rfl ?_
        obtain ⟨o7, e7, h⟩ := zbind h
        refine g_csI (pc := 25) (st := []) hX zk_Mo_isByte zL_Mo_221 (c_Mo_isByte c l4 e7) rfl rfl rfl rfl rfl d_Mo_feed_25 ?_
        refine g_if_eq (pc := 28) (tgt := 47) hX d_Mo_feed_28 (by decide) h (fun c8 h => ?_) (fun c8 h => ?_)
        · refine g_bipush (pc := 47) hX d_Mo_feed_47 ze_m2 ?_
          obtain rfl := Option.some.inj h
          exact g_iret (pc := 49) hX hR d_Mo_feed_49
        · refine g_iload (pc := 31) hX d_Mo_feed_31 5 rfl ?_
          obtain ⟨o9, e9, h⟩ := zbind h
          refine g_csI (pc := 33) (st := []) hX zk_Mo_isByte zL_Mo_221 (c_Mo_isByte c l5 e9) rfl rfl rfl rfl rfl d_Mo_feed_33 ?_
          refine g_if_eq (pc := 36) (tgt := 47) hX d_Mo_feed_36 (by decide) h (fun c10 h => ?_) (fun c10 h => ?_)
          · refine g_bipush (pc := 47) hX d_Mo_feed_47 ze_m2 ?_
            obtain rfl := Option.some.inj h
            exact g_iret (pc := 49) hX hR d_Mo_feed_49
          · refine g_iload (pc := 39) hX d_Mo_feed_39 6 rfl ?_
            obtain ⟨o11, e11, h⟩ := zbind h
            refine g_csI (pc := 41) (st := []) hX zk_Mo_isByte zL_Mo_221 (c_Mo_isByte c l6 e11) rfl rfl rfl rfl rfl d_Mo_feed_41 ?_
            refine g_if_ne (pc := 44) (tgt := 50) hX d_Mo_feed_44 (by decide) h (fun c12 h => ?_) (fun c12 h => ?_)
            · refine g_aload_n (pc := 50) hX d_Mo_feed_50 rfl 0 rfl ?_
              refine gf_Mo_224 (pc := 51) (v := .int ((x.1 36))) hX 0 rfl rfl d_Mo_feed_51 ?_
              refine g_iload_n (pc := 54) hX d_Mo_feed_54 rfl 1 rfl ?_
              refine g_iadd (pc := 55) hX d_Mo_feed_55 ?_
              refine g_bipush (pc := 56) hX d_Mo_feed_56 ze_40 ?_
              refine g_icmp_le (pc := 58) (tgt := 64) hX d_Mo_feed_58 (by decide) h (fun c13 h => ?_) (fun c13 h => ?_)
              · refine g_aload_n (pc := 64) hX d_Mo_feed_64 rfl 0 rfl ?_
                refine g_iload_n (pc := 65) hX d_Mo_feed_65 rfl 2 rfl ?_
                refine g_iconst (pc := 66) hX d_Mo_feed_66 zc_1 ?_
                obtain ⟨o14, e14, h⟩ := zbind h
                refine g_cvV (pc := 67) (w1 := []) (w2 := []) (st := []) (w' := (zwM c q o14)) hX zk_Mo_comes zs_Mo_comes zL_Mo_227 (c_Mo_comes c q x l2 ((1 : Int32)) e14) rfl rfl rfl rfl (zself _) (zself _).symm 0 10 rfl rfl rfl d_Mo_feed_67 ?_
                refine g_aload_n (pc := 70) hX d_Mo_feed_70 rfl 0 rfl ?_
                refine g_iload_n (pc := 71) hX d_Mo_feed_71 rfl 3 rfl ?_
                refine g_iload_n (pc := 72) hX d_Mo_feed_72 rfl 1 rfl ?_
                refine g_iconst (pc := 73) hX d_Mo_feed_73 zc_1 ?_
                refine g_icmp_le (pc := 74) (tgt := 81) hX d_Mo_feed_74 (by decide) h (fun c15 h => ?_) (fun c15 h => ?_)
                · refine g_iconst (pc := 81) hX d_Mo_feed_81 zc_0 ?_
                  refine g_ls (L' := [(0, .ref ((q 0))), (1, .int l1), (4, .int l4), (5, .int l5), (6, .int l6)]) [0, 1, 4, 5, 6] rfl ?_
                  exact w_Mo_feed_82 hX hR _ _ _ h
                · refine g_iconst (pc := 77) hX d_Mo_feed_77 zc_1 ?_
                  refine g_goto (pc := 78) (tgt := 82) hX d_Mo_feed_78 (by decide) ?_
                  refine g_ls (L' := [(0, .ref ((q 0))), (1, .int l1), (4, .int l4), (5, .int l5), (6, .int l6)]) [0, 1, 4, 5, 6] rfl ?_
                  exact w_Mo_feed_82 hX hR _ _ _ h
              · refine g_bipush (pc := 61) hX d_Mo_feed_61 ze_m4 ?_
                obtain rfl := Option.some.inj h
                exact g_iret (pc := 63) hX hR d_Mo_feed_63
            · refine g_bipush (pc := 47) hX d_Mo_feed_47 ze_m2 ?_
              obtain rfl := Option.some.inj h
              exact g_iret (pc := 49) hX hR d_Mo_feed_49)
theorem d_Mo_skips_0 : decode zb_Mo_skips 0 = .ok (.aload_n 0, 1) := by decide +kernel
theorem d_Mo_skips_1 : decode zb_Mo_skips 1 = .ok (.getfield 231, 3) := by decide +kernel
theorem d_Mo_skips_4 : decode zb_Mo_skips 4 = .ok (.aload_n 0, 1) := by decide +kernel
theorem d_Mo_skips_5 : decode zb_Mo_skips 5 = .ok (.getfield 224, 3) := by decide +kernel
theorem d_Mo_skips_8 : decode zb_Mo_skips 8 = .ok (.if_icmp .eq 16, 3) := by decide +kernel
theorem d_Mo_skips_11 : decode zb_Mo_skips 11 = .ok (.aload_n 0, 1) := by decide +kernel
theorem d_Mo_skips_12 : decode zb_Mo_skips 12 = .ok (.getfield 65, 3) := by decide +kernel
theorem d_Mo_skips_15 : decode zb_Mo_skips 15 = .ok (.aload_n 0, 1) := by decide +kernel
theorem d_Mo_skips_16 : decode zb_Mo_skips 16 = .ok (.getfield 231, 3) := by decide +kernel
theorem d_Mo_skips_19 : decode zb_Mo_skips 19 = .ok (.iaload, 1) := by decide +kernel
theorem d_Mo_skips_20 : decode zb_Mo_skips 20 = .ok (.iload_n 1, 1) := by decide +kernel
theorem d_Mo_skips_21 : decode zb_Mo_skips 21 = .ok (.if_icmp .eq 5, 3) := by decide +kernel
theorem d_Mo_skips_24 : decode zb_Mo_skips 24 = .ok (.iconst 0, 1) := by decide +kernel
theorem d_Mo_skips_25 : decode zb_Mo_skips 25 = .ok (.ireturn, 1) := by decide +kernel
theorem d_Mo_skips_26 : decode zb_Mo_skips 26 = .ok (.aload_n 0, 1) := by decide +kernel
theorem d_Mo_skips_27 : decode zb_Mo_skips 27 = .ok (.dup, 1) := by decide +kernel
theorem d_Mo_skips_28 : decode zb_Mo_skips 28 = .ok (.getfield 231, 3) := by decide +kernel
theorem d_Mo_skips_31 : decode zb_Mo_skips 31 = .ok (.iconst 1, 1) := by decide +kernel
theorem d_Mo_skips_32 : decode zb_Mo_skips 32 = .ok (.iadd, 1) := by decide +kernel
theorem d_Mo_skips_33 : decode zb_Mo_skips 33 = .ok (.putfield 231, 3) := by decide +kernel
theorem d_Mo_skips_36 : decode zb_Mo_skips 36 = .ok (.iconst 1, 1) := by decide +kernel
theorem d_Mo_skips_37 : decode zb_Mo_skips 37 = .ok (.ireturn, 1) := by decide +kernel
def k_Mo_skips (x : zsM) (l1 : Int32) : Option (Int32 × zsM) := (if (x.1 37) = (x.1 36) then some ((0 : Int32), x) else (if zOut ((x.1 37)) 40 then none else (if (((x.2 34)) ((x.1 37)).toNatClampNeg) = l1 then some ((1 : Int32), ((upd x.1 37 (((x.1 37) + (1 : Int32)))), x.2)) else some ((0 : Int32), x))))
set_option maxRecDepth 20000 in
theorem c_Mo_skips (c : zY) (q : Nat → Nat) (x : zsM) (l1 : Int32) {out : Int32 × zsM} (h : k_Mo_skips x l1 = some out) : KM zy_Mo_skips zb_Mo_skips 2 (some .boolean) 0 c [.ref ((q 0)), .int l1] (zwM c q x) (zwM c q out.2) (some (.int out.1)) := zK_of zp_Mo rfl (Nat.le_of_ble_eq_true rfl) (zq_Mo c q _ _) (fun X hX hR => by
  show Go X (zwM c q x) [(0, .ref ((q 0))), (1, .int l1)] 0 []
  rw [k_Mo_skips] at h
  refine g_aload_n (pc := 0) hX d_Mo_skips_0 rfl 0 rfl ?_
  refine gf_Mo_231 (pc := 1) (v := .int ((x.1 37))) hX 0 rfl rfl d_Mo_skips_1 ?_
  refine g_aload_n (pc := 4) hX d_Mo_skips_4 rfl 0 rfl ?_
  refine gf_Mo_224 (pc := 5) (v := .int ((x.1 36))) hX 0 rfl rfl d_Mo_skips_5 ?_
  refine g_icmp_eq (pc := 8) (tgt := 24) hX d_Mo_skips_8 (by decide) h (fun c1 h => ?_) (fun c1 h => ?_)
  · refine g_iconst (pc := 24) hX d_Mo_skips_24 zc_0 ?_
    obtain rfl := Option.some.inj h
    exact g_zret (pc := 25) hX hR (Or.inl rfl) d_Mo_skips_25
  · refine g_aload_n (pc := 11) hX d_Mo_skips_11 rfl 0 rfl ?_
    refine gf_Mo_65 (pc := 12) (v := .ref ((q 18))) hX 0 rfl rfl d_Mo_skips_12 ?_
    refine g_aload_n (pc := 15) hX d_Mo_skips_15 rfl 0 rfl ?_
    refine gf_Mo_231 (pc := 16) (v := .int ((x.1 37))) hX 0 rfl rfl d_Mo_skips_16 ?_
    refine g_iald (pc := 19) (f := (x.2 34)) hX 18 rfl h d_Mo_skips_19 (fun h => ?_)
    refine g_iload_n (pc := 20) hX d_Mo_skips_20 rfl 1 rfl ?_
    refine g_icmp_eq (pc := 21) (tgt := 26) hX d_Mo_skips_21 (by decide) h (fun c2 h => ?_) (fun c2 h => ?_)
    · refine g_aload_n (pc := 26) hX d_Mo_skips_26 rfl 0 rfl ?_
      refine g_dup (pc := 27) hX d_Mo_skips_27 rfl ?_
      refine gf_Mo_231 (pc := 28) (v := .int ((x.1 37))) hX 0 rfl rfl d_Mo_skips_28 ?_
      refine g_iconst (pc := 31) hX d_Mo_skips_31 zc_1 ?_
      refine g_iadd (pc := 32) hX d_Mo_skips_32 ?_
      refine pf_Mo_231 (pc := 33) (w2 := (zwM c q (((upd x.1 37 (((x.1 37) + (1 : Int32)))), x.2)))) hX 0 rfl rfl (su_Mo_0_37 c q x (((x.1 37) + (1 : Int32)))) d_Mo_skips_33 ?_
      refine g_iconst (pc := 36) hX d_Mo_skips_36 zc_1 ?_
      obtain rfl := Option.some.inj h
      exact g_zret (pc := 37) hX hR (Or.inr rfl) d_Mo_skips_37
    · refine g_iconst (pc := 24) hX d_Mo_skips_24 zc_0 ?_
      obtain rfl := Option.some.inj h
      exact g_zret (pc := 25) hX hR (Or.inl rfl) d_Mo_skips_25)
