theorem tp_app {l : Nat} {B pa : Nat → Int32} {pos x : Int32} (hl : l < 40) : k_Tp_append (B, pa, nI l, pos) x = some (upd B l x, pa, nI (l + 1), pos) := by
  simp only [k_Tp_append, if_neg (z_ltz (show l < 2 ^ 31 by omega)), if_pos (show nI l < 40 from nI_lt (b := 40) hl (by omega)), if_neg (zo_in hl (show 40 < 2 ^ 31 by omega)), nI_clamp (show l < 2 ^ 31 by omega), nI_1]
theorem r_feed1 {l b : Nat} {B : Nat → Int32} {m : zsM} (h : zTt l B m) (hl : l < 40) (hb : b < 128) : ∃ m', k_Mo_comes m (nI b) 1 = some m' ∧ zTt (l + 1) (upd B l (nI b)) m' ∧ (∀ i, i ≠ 36 → m'.1 i = m.1 i) ∧ ∀ a, a ≠ 34 → m'.2 a = m.2 a := by
  obtain ⟨h1, h2, h3⟩ := h
  refine ⟨(upd m.1 36 (nI (l + 1)), va_up m.2 34 (upd (m.2 34) l (nI b))), ?_, ⟨by omega, ?_, fun i hi => ?_⟩, fun i hi => zu_n hi, fun a ha => zup_n ha⟩
  · unfold k_Mo_comes
    rw [if_neg (show ¬ (1 : Int32) = 0 by decide), h2, if_neg (zo_in hl (by omega)), nI_clamp (by omega), nI_1]
  · dsimp only
    exact zu_s
  · dsimp only
    rw [zup_s]
    by_cases hil : i = l
    · subst hil
      exact ⟨b, hb, zu_s, zu_s⟩
    · rw [zu_n hil, zu_n hil]
      exact h3 i (by omega)
theorem mo_comes0 (m : zsM) (x : Int32) : k_Mo_comes m x 0 = some m := if_pos rfl
theorem el_feed0 {n fu : Nat} {x0 x1 x2 x3 x4 : Int32} {P : zsP} {r : Int32 × Int32 × zsW × zsS × zsK × zsS} (hn : 0 < n) (hn5 : n ≤ 5) : k_EL_feed_80 (nI n) x0 x1 x2 x3 x4 (fu + 1) (nI 0) (P, r) = (k_Tp_append P x0).bind fun o => k_EL_feed_80 (nI n) x0 x1 x2 x3 x4 fu (nI 1) (o, r) := by
  simp only [k_EL_feed_80]
  rw [if_pos (show nI 0 < nI n from nI_lt hn (by omega)), if_pos (show nI 0 = (0 : Int32) from rfl)]
  rfl
theorem el_feed1 {n fu : Nat} {x0 x1 x2 x3 x4 : Int32} {P : zsP} {r : Int32 × Int32 × zsW × zsS × zsK × zsS} (hn : 1 < n) (hn5 : n ≤ 5) : k_EL_feed_80 (nI n) x0 x1 x2 x3 x4 (fu + 1) (nI 1) (P, r) = (k_Tp_append P x1).bind fun o => k_EL_feed_80 (nI n) x0 x1 x2 x3 x4 fu (nI 2) (o, r) := by
  simp only [k_EL_feed_80]
  rw [if_pos (show nI 1 < nI n from nI_lt hn (by omega)), if_neg (show ¬ nI 1 = (0 : Int32) by decide), if_pos (show nI 1 = (1 : Int32) from rfl)]
  rfl
theorem el_feed2 {n fu : Nat} {x0 x1 x2 x3 x4 : Int32} {P : zsP} {r : Int32 × Int32 × zsW × zsS × zsK × zsS} (hn : 2 < n) (hn5 : n ≤ 5) : k_EL_feed_80 (nI n) x0 x1 x2 x3 x4 (fu + 1) (nI 2) (P, r) = (k_Tp_append P x2).bind fun o => k_EL_feed_80 (nI n) x0 x1 x2 x3 x4 fu (nI 3) (o, r) := by
  simp only [k_EL_feed_80]
  rw [if_pos (show nI 2 < nI n from nI_lt hn (by omega)), if_neg (show ¬ nI 2 = (0 : Int32) by decide), if_neg (show ¬ nI 2 = (1 : Int32) by decide), if_pos (show nI 2 = (2 : Int32) from rfl)]
  rfl
theorem el_feed3 {n fu : Nat} {x0 x1 x2 x3 x4 : Int32} {P : zsP} {r : Int32 × Int32 × zsW × zsS × zsK × zsS} (hn : 3 < n) (hn5 : n ≤ 5) : k_EL_feed_80 (nI n) x0 x1 x2 x3 x4 (fu + 1) (nI 3) (P, r) = (k_Tp_append P x3).bind fun o => k_EL_feed_80 (nI n) x0 x1 x2 x3 x4 fu (nI 4) (o, r) := by
  simp only [k_EL_feed_80]
  rw [if_pos (show nI 3 < nI n from nI_lt hn (by omega)), if_neg (show ¬ nI 3 = (0 : Int32) by decide), if_neg (show ¬ nI 3 = (1 : Int32) by decide), if_neg (show ¬ nI 3 = (2 : Int32) by decide), if_pos (show nI 3 = (3 : Int32) from rfl)]
  rfl
theorem el_feed4 {n fu : Nat} {x0 x1 x2 x3 x4 : Int32} {P : zsP} {r : Int32 × Int32 × zsW × zsS × zsK × zsS} (hn : 4 < n) (hn5 : n ≤ 5) : k_EL_feed_80 (nI n) x0 x1 x2 x3 x4 (fu + 1) (nI 4) (P, r) = (k_Tp_append P x4).bind fun o => k_EL_feed_80 (nI n) x0 x1 x2 x3 x4 fu (nI 5) (o, r) := by
  simp only [k_EL_feed_80]
  rw [if_pos (show nI 4 < nI n from nI_lt hn (by omega)), if_neg (show ¬ nI 4 = (0 : Int32) by decide), if_neg (show ¬ nI 4 = (1 : Int32) by decide), if_neg (show ¬ nI 4 = (2 : Int32) by decide), if_neg (show ¬ nI 4 = (3 : Int32) by decide)]
  rfl
theorem el_feedE {n fu : Nat} {x0 x1 x2 x3 x4 : Int32} {P : zsP} {r : Int32 × Int32 × zsW × zsS × zsK × zsS} (hn5 : n ≤ 5) : k_EL_feed_80 (nI n) x0 x1 x2 x3 x4 (fu + 1) (nI n) (P, r) = some (P.2.2.1, (P, r)) := by
  simp only [k_EL_feed_80]
  rw [if_neg (nI_nlt (Nat.le_refl _) (by omega))]
theorem r_feed {l n b0 b1 b2 b3 b4 : Nat} {B pa : Nat → Int32} {pos : Int32} {m : zsM} (r : Int32 × Int32 × zsW × zsS × zsK × zsS) (h : zTt l B m) (hn0 : 0 < n) (hn5 : n ≤ 5) (hln : l + n ≤ 40) (h0 : b0 < 128) (h1 : b1 < 128) (h2 : b2 < 128) (h3 : b3 < 128) (h4 : b4 < 128) : ∃ B' m', k_EL_feed_80 (nI n) (nI b0) (nI b1) (nI b2) (nI b3) (nI b4) zFu 0 ((B, pa, nI l, pos), r) = some (nI (l + n), ((B', pa, nI (l + n), pos), r)) ∧ ((k_Mo_comes m (nI b0) 1).bind fun o14 => if (1 : Int32) < nI n then k_Mo_feed_82 (nI n) (nI b0) (nI b1) (nI b2) (nI b3) (nI b4) 1 (nI b1) o14 else k_Mo_feed_82 (nI n) (nI b0) (nI b1) (nI b2) (nI b3) (nI b4) 0 (nI b1) o14) = some (nI (l + n), m') ∧ zTt (l + n) B' m' ∧ (∀ i, i ≠ 36 → m'.1 i = m.1 i) ∧ ∀ a, a ≠ 34 → m'.2 a = m.2 a := by
  obtain ⟨g, hg⟩ : ∃ g, zFu = g + 6 := ⟨zFu - 6, by have := zFu_gt; omega⟩
  have hn : n = 1 ∨ n = 2 ∨ n = 3 ∨ n = 4 ∨ n = 5 := by omega
  rcases hn with rfl | rfl | rfl | rfl | rfl
  · obtain ⟨m1, e1, t1, f1, g1⟩ := r_feed1 h (show l < 40 by omega) h0
    refine ⟨_, m1, ?_, ?_, t1, fun i hi => ?_, fun a ha => ?_⟩
    · rw [hg, show k_EL_feed_80 (nI 1) _ _ _ _ _ (g + 6) 0 _ = _ from el_feed0 (n := 1) (fu := g + 5) (by omega) (by omega), tp_app (by omega), Option.bind_some, el_feedE (n := 1) (fu := g + 4) (by omega)]
    · unfold k_Mo_feed_82 k_Mo_feed_98 k_Mo_feed_114
      rw [e1, Option.bind_some, if_neg (show ¬ (1 : Int32) < nI 1 by decide), mo_comes0, Option.bind_some, if_neg (show ¬ (2 : Int32) < nI 1 by decide), mo_comes0, Option.bind_some, if_neg (show ¬ (3 : Int32) < nI 1 by decide), mo_comes0, Option.bind_some, if_neg (show ¬ (4 : Int32) < nI 1 by decide), mo_comes0, Option.bind_some, t1.2.1]
    · rw [f1 i hi]
    · rw [g1 a ha]
  · obtain ⟨m1, e1, t1, f1, g1⟩ := r_feed1 h (show l < 40 by omega) h0
    obtain ⟨m2, e2, t2, f2, g2⟩ := r_feed1 t1 (show l + 1 < 40 by omega) h1
    refine ⟨_, m2, ?_, ?_, t2, fun i hi => ?_, fun a ha => ?_⟩
    · rw [hg, show k_EL_feed_80 (nI 2) _ _ _ _ _ (g + 6) 0 _ = _ from el_feed0 (n := 2) (fu := g + 5) (by omega) (by omega), tp_app (by omega), Option.bind_some, el_feed1 (n := 2) (fu := g + 4) (by omega) (by omega), tp_app (by omega), Option.bind_some, el_feedE (n := 2) (fu := g + 3) (by omega)]
    · unfold k_Mo_feed_82 k_Mo_feed_98 k_Mo_feed_114
      rw [e1, Option.bind_some, if_pos (show (1 : Int32) < nI 2 by decide), e2, Option.bind_some, if_neg (show ¬ (2 : Int32) < nI 2 by decide), mo_comes0, Option.bind_some, if_neg (show ¬ (3 : Int32) < nI 2 by decide), mo_comes0, Option.bind_some, if_neg (show ¬ (4 : Int32) < nI 2 by decide), mo_comes0, Option.bind_some, t2.2.1]
    · rw [f2 i hi, f1 i hi]
    · rw [g2 a ha, g1 a ha]
  · obtain ⟨m1, e1, t1, f1, g1⟩ := r_feed1 h (show l < 40 by omega) h0
    obtain ⟨m2, e2, t2, f2, g2⟩ := r_feed1 t1 (show l + 1 < 40 by omega) h1
    obtain ⟨m3, e3, t3, f3, g3⟩ := r_feed1 t2 (show l + 1 + 1 < 40 by omega) h2
    refine ⟨_, m3, ?_, ?_, t3, fun i hi => ?_, fun a ha => ?_⟩
    · rw [hg, show k_EL_feed_80 (nI 3) _ _ _ _ _ (g + 6) 0 _ = _ from el_feed0 (n := 3) (fu := g + 5) (by omega) (by omega), tp_app (by omega), Option.bind_some, el_feed1 (n := 3) (fu := g + 4) (by omega) (by omega), tp_app (by omega), Option.bind_some, el_feed2 (n := 3) (fu := g + 3) (by omega) (by omega), tp_app (by omega), Option.bind_some, el_feedE (n := 3) (fu := g + 2) (by omega)]
    · unfold k_Mo_feed_82 k_Mo_feed_98 k_Mo_feed_114
      rw [e1, Option.bind_some, if_pos (show (1 : Int32) < nI 3 by decide), e2, Option.bind_some, if_pos (show (2 : Int32) < nI 3 by decide), e3, Option.bind_some, if_neg (show ¬ (3 : Int32) < nI 3 by decide), mo_comes0, Option.bind_some, if_neg (show ¬ (4 : Int32) < nI 3 by decide), mo_comes0, Option.bind_some, t3.2.1]
    · rw [f3 i hi, f2 i hi, f1 i hi]
    · rw [g3 a ha, g2 a ha, g1 a ha]
  · obtain ⟨m1, e1, t1, f1, g1⟩ := r_feed1 h (show l < 40 by omega) h0
    obtain ⟨m2, e2, t2, f2, g2⟩ := r_feed1 t1 (show l + 1 < 40 by omega) h1
    obtain ⟨m3, e3, t3, f3, g3⟩ := r_feed1 t2 (show l + 1 + 1 < 40 by omega) h2
    obtain ⟨m4, e4, t4, f4, g4⟩ := r_feed1 t3 (show l + 1 + 1 + 1 < 40 by omega) h3
    refine ⟨_, m4, ?_, ?_, t4, fun i hi => ?_, fun a ha => ?_⟩
    · rw [hg, show k_EL_feed_80 (nI 4) _ _ _ _ _ (g + 6) 0 _ = _ from el_feed0 (n := 4) (fu := g + 5) (by omega) (by omega), tp_app (by omega), Option.bind_some, el_feed1 (n := 4) (fu := g + 4) (by omega) (by omega), tp_app (by omega), Option.bind_some, el_feed2 (n := 4) (fu := g + 3) (by omega) (by omega), tp_app (by omega), Option.bind_some, el_feed3 (n := 4) (fu := g + 2) (by omega) (by omega), tp_app (by omega), Option.bind_some, el_feedE (n := 4) (fu := g + 1) (by omega)]
    · unfold k_Mo_feed_82 k_Mo_feed_98 k_Mo_feed_114
      rw [e1, Option.bind_some, if_pos (show (1 : Int32) < nI 4 by decide), e2, Option.bind_some, if_pos (show (2 : Int32) < nI 4 by decide), e3, Option.bind_some, if_pos (show (3 : Int32) < nI 4 by decide), e4, Option.bind_some, if_neg (show ¬ (4 : Int32) < nI 4 by decide), mo_comes0, Option.bind_some, t4.2.1]
    · rw [f4 i hi, f3 i hi, f2 i hi, f1 i hi]
    · rw [g4 a ha, g3 a ha, g2 a ha, g1 a ha]
  · obtain ⟨m1, e1, t1, f1, g1⟩ := r_feed1 h (show l < 40 by omega) h0
    obtain ⟨m2, e2, t2, f2, g2⟩ := r_feed1 t1 (show l + 1 < 40 by omega) h1
    obtain ⟨m3, e3, t3, f3, g3⟩ := r_feed1 t2 (show l + 1 + 1 < 40 by omega) h2
    obtain ⟨m4, e4, t4, f4, g4⟩ := r_feed1 t3 (show l + 1 + 1 + 1 < 40 by omega) h3
    obtain ⟨m5, e5, t5, f5, g5⟩ := r_feed1 t4 (show l + 1 + 1 + 1 + 1 < 40 by omega) h4
    refine ⟨_, m5, ?_, ?_, t5, fun i hi => ?_, fun a ha => ?_⟩
    · rw [hg, show k_EL_feed_80 (nI 5) _ _ _ _ _ (g + 6) 0 _ = _ from el_feed0 (n := 5) (fu := g + 5) (by omega) (by omega), tp_app (by omega), Option.bind_some, el_feed1 (n := 5) (fu := g + 4) (by omega) (by omega), tp_app (by omega), Option.bind_some, el_feed2 (n := 5) (fu := g + 3) (by omega) (by omega), tp_app (by omega), Option.bind_some, el_feed3 (n := 5) (fu := g + 2) (by omega) (by omega), tp_app (by omega), Option.bind_some, el_feed4 (n := 5) (fu := g + 1) (by omega) (by omega), tp_app (by omega), Option.bind_some, el_feedE (n := 5) (fu := g + 0) (by omega)]
    · unfold k_Mo_feed_82 k_Mo_feed_98 k_Mo_feed_114
      rw [e1, Option.bind_some, if_pos (show (1 : Int32) < nI 5 by decide), e2, Option.bind_some, if_pos (show (2 : Int32) < nI 5 by decide), e3, Option.bind_some, if_pos (show (3 : Int32) < nI 5 by decide), e4, Option.bind_some, if_pos (show (4 : Int32) < nI 5 by decide), e5, Option.bind_some, t5.2.1]
    · rw [f5 i hi, f4 i hi, f3 i hi, f2 i hi, f1 i hi]
    · rw [g5 a ha, g4 a ha, g3 a ha, g2 a ha, g1 a ha]
theorem z_byte (a : Int32) : (∃ b, b < 128 ∧ a = nI b ∧ k_EL_isByte a = some 1 ∧ k_Mo_isByte a = some 1) ∨ (k_EL_isByte a = some 0 ∧ k_Mo_isByte a = some 0) := by
  unfold k_EL_isByte k_Mo_isByte k_Mo_isBetween
  by_cases h0 : a < 0
  · rw [if_pos h0]
    exact Or.inr ⟨rfl, rfl⟩
  · rw [if_neg h0]
    by_cases h1 : 127 < a
    · rw [if_pos h1]
      exact Or.inr ⟨rfl, rfl⟩
    · rw [if_neg h1]
      obtain ⟨b, -, b9, rfl⟩ := z_rng (lo := 0) (hi := 127) (by omega) (Or.inr h0) h0 h1 (by omega)
      exact Or.inl ⟨b, by omega, rfl, rfl, rfl⟩
theorem op_feed : OP_feed zRR := by
  intro k x m a1 a2 a3 a4 a5 a6 hk h
  have hm := zRR_mono h
  obtain ⟨P, r⟩ := x
  obtain ⟨B, pa, ln, pos⟩ := P
  obtain ⟨⟨l, l1, l2⟩, q2, q3, q4⟩ := hm.2
  have hm1 := hm.1
  dsimp only at l1 l2 q2 q3 q4 hm1
  subst l1
  unfold k_EL_feed k_Mo_feed k_Mo_isBetween k_EL_feed_53
  rw [if_pos (show (0 : Int32) = 0 from rfl), if_neg (show ¬ (1 : Int32) = 0 by decide)]
  by_cases s0 : a1 < 1
  · rw [if_pos s0, if_pos s0]
    exact ⟨_, _, _, rfl, rfl, hm⟩
  rw [if_neg s0, if_neg s0]
  by_cases s1 : 5 < a1
  · rw [if_pos s1, if_pos s1]
    exact ⟨_, _, _, rfl, rfl, hm⟩
  rw [if_neg s1, if_neg s1, Option.bind_some, if_neg (show ¬ (1 : Int32) = 0 by decide)]
  obtain ⟨n, n0, n5, rfl⟩ := z_rng (lo := 1) (hi := 5) (by omega) (Or.inl (by omega)) s0 s1 (by omega)
  rcases z_byte a2 with ⟨b0, c2, rfl, d2, e2⟩ | ⟨d2, e2⟩
  rotate_left
  · rw [d2, e2, Option.bind_some, Option.bind_some, if_pos rfl, if_pos rfl]
    exact ⟨_, _, _, rfl, rfl, hm⟩
  rw [d2, e2, Option.bind_some, Option.bind_some, if_neg (show ¬ (1 : Int32) = 0 by decide), if_neg (show ¬ (1 : Int32) = 0 by decide)]
  rcases z_byte a3 with ⟨b1, c3, rfl, d3, e3⟩ | ⟨d3, e3⟩
  rotate_left
  · rw [d3, e3, Option.bind_some, Option.bind_some, if_pos rfl, if_pos rfl]
    exact ⟨_, _, _, rfl, rfl, hm⟩
  rw [d3, e3, Option.bind_some, Option.bind_some, if_neg (show ¬ (1 : Int32) = 0 by decide), if_neg (show ¬ (1 : Int32) = 0 by decide)]
  rcases z_byte a4 with ⟨b2, c4, rfl, d4, e4⟩ | ⟨d4, e4⟩
  rotate_left
  · rw [d4, e4, Option.bind_some, Option.bind_some, if_pos rfl, if_pos rfl]
    exact ⟨_, _, _, rfl, rfl, hm⟩
  rw [d4, e4, Option.bind_some, Option.bind_some, if_neg (show ¬ (1 : Int32) = 0 by decide), if_neg (show ¬ (1 : Int32) = 0 by decide)]
  rcases z_byte a5 with ⟨b3, c5, rfl, d5, e5⟩ | ⟨d5, e5⟩
  rotate_left
  · rw [d5, e5, Option.bind_some, Option.bind_some, if_pos rfl, if_pos rfl]
    exact ⟨_, _, _, rfl, rfl, hm⟩
  rw [d5, e5, Option.bind_some, Option.bind_some, if_neg (show ¬ (1 : Int32) = 0 by decide), if_neg (show ¬ (1 : Int32) = 0 by decide)]
  rcases z_byte a6 with ⟨b4, c6, rfl, d6, e6⟩ | ⟨d6, e6⟩
  rotate_left
  · rw [d6, e6, Option.bind_some, Option.bind_some, if_pos rfl, if_pos rfl]
    exact ⟨_, _, _, rfl, rfl, hm⟩
  rw [d6, e6, Option.bind_some, Option.bind_some, if_neg (show ¬ (1 : Int32) = 0 by decide), if_neg (show ¬ (1 : Int32) = 0 by decide)]
  unfold k_Tp_hasRoomFor
  dsimp only
  have hl := l2.1
  rw [l2.2.1, nI_add]
  by_cases s2 : 40 < l + n
  · rw [if_pos (show (40 : Int32) < nI (l + n) from nI_lt (a := 40) s2 (by omega)), if_pos (show (40 : Int32) < nI (l + n) from nI_lt (a := 40) s2 (by omega)), Option.bind_some, if_pos rfl]
    exact ⟨_, _, _, rfl, rfl, hm⟩
  rw [if_neg (show ¬ (40 : Int32) < nI (l + n) from nI_nlt (a := 40) (by omega) (by omega)), if_neg (show ¬ (40 : Int32) < nI (l + n) from nI_nlt (a := 40) (by omega) (by omega)), Option.bind_some, if_neg (show ¬ (1 : Int32) = 0 by decide)]
  obtain ⟨B', m', f1, f2, f3, f4, f5⟩ := r_feed (pa := pa) (pos := pos) r l2 (show 0 < n by omega) n5 (by omega) c2 c3 c4 c5 c6
  refine ⟨nI (l + n), ((B', pa, nI (l + n), pos), r), m', f1, f2, zSS_cg hm1 ⟨fun i hi => f4 i (fun e => ?_), fun a k hk => congrFun (f5 a (fun e => ?_)) k⟩, ⟨⟨l + n, rfl, f3⟩, ?_, ?_, zRK_cg q4 (f4 42 (by decide)) (f5 40 (by decide))⟩⟩
  · rw [e] at hi
    unfold zin at hi
    omega
  · rw [e] at hk
    unfold zan at hk
    omega
  · rw [f4 12 (by decide)]
    exact q2
  · rw [f4 44 (by decide), f5 41 (by decide)]
    exact q3
