theorem zSS_F {b r F : Nat} {j c t o w pw : zsT} {p fi ei : Nat → Int32} {rs : Int32} {m0 m : zsM} (h : zSS b r ((((j, c, p), t, fi), o, ei), w, pw, rs) m) (hr : zRF F t m0) : zRI b F j c t fi m ∧ zRE F r o ei m ∧ zRW w (m.2 0) ∧ zRP pw (m.1 38) (m.2 33) ∧ rs = m.1 29 := by
  obtain ⟨F', h1, h2, h3, h4, h5⟩ := h
  dsimp only at h1 h2 h3 h4 h5
  have hF := hr.1
  have hFF : F' = F := by
    have := h1.2.2.1.2.1.symm.trans hr.2.1
    exact (nI_eq (by have := h1.2.2.1.1; omega) (by omega)).1 this
  subst hFF
  exact ⟨h1, h2, h3, h4, h5⟩
theorem op_wall : OP_wall zRR := by
  intro k x m a1 hk h
  have hm := zRR_mono h
  obtain ⟨P, I, R, W, ⟨⟨⟨⟨j, c, p⟩, t, fi⟩, o, ei⟩, w, pw, rs⟩, K, sv⟩ := x
  have hrf := zRR_refuse (W' := W) (m1 := m) 5 h rfl (fun _ _ _ => rfl)
  obtain ⟨⟨F, ⟨-, -, hr, -⟩, -, hw, -⟩, -⟩ := id h
  dsimp only at hr hw
  have hF := hr.1
  unfold k_EL_wall k_Mo_wall
  dsimp only
  rcases z_cellc a1 with ⟨v, c1, rfl, c3, c4⟩ | ⟨c3, c4⟩
  rotate_left
  · rw [c3, c4, Option.bind_some, Option.bind_some, if_pos rfl, if_pos rfl]
    exact ⟨_, _, _, rfl, rfl, hm⟩
  rw [c3, c4, Option.bind_some, Option.bind_some, if_neg (show ¬ (1 : Int32) = 0 by decide), if_neg (show ¬ (1 : Int32) = 0 by decide)]
  rcases r_stand (c3 := (j, c, p)) (fi := fi) (nI v) hr with ⟨r, r1, r2, r3, r4⟩ | ⟨r1, r2, r3⟩
  · rw [r3, r4, Option.bind_some, Option.bind_some, if_neg (fun e => zm1_n (show r < 2 ^ 31 by omega) e.symm), if_neg (z_ltz (by omega))]
    exact ⟨_, _, _, rfl, rfl, hrf⟩
  rw [r2, r3, Option.bind_some, Option.bind_some, if_pos rfl, if_pos (show (-1 : Int32) < 0 by decide)]
  obtain ⟨K', m1, e1, e2, e3, e4, e5, e6⟩ := r_keepX (by omega) h.1 h.2
  dsimp only at e1 e3 e4
  obtain ⟨h1, h2, h3, h4, h5⟩ := zSS_F e3 hr
  have hz : ¬ zOut (nI v) 100 := zo_in c1 (by omega)
  have hset : ∀ x, k_Ta_set 1 100 w (nI v) 0 x = some (upd w.1 v x, w.2) := fun x => by
    have g := ta_set (w := 1) (n := 100) (c := 0) (v := x) h3.1 c1 (by omega) (by omega) (by omega)
    rw [Nat.mul_one, Nat.add_zero] at g
    exact g
  have hget : k_Ta_get 1 100 w (nI v) 0 = some (m1.2 0 v) := wl_get h3 c1
  rw [e1, e2, Option.bind_some, Option.bind_some, hget, Option.bind_some, hset, Option.bind_some, if_neg hz, if_neg hz, if_neg hz]
  simp only [nI_clamp (show v < 2 ^ 31 by omega)]
  obtain ⟨i1, i2, i3, i4, i5, i6⟩ := h1
  have U : ∀ a, a ≠ 0 → va_up m1.2 0 (upd (m1.2 0) v (1 - m1.2 0 v)) a = m1.2 a := fun a ha => zup_n ha
  refine ⟨_, _, (m1.1, va_up m1.2 0 (upd (m1.2 0) v (1 - m1.2 0 v))), rfl, by rw [zu_s], ⟨F, ⟨zRJ_mono i1 (by omega), i2, ?_, ?_, i5, i6⟩, zRE_cg h2 (Nat.le_refl _) (by omega) (fun _ _ _ => rfl) (U 10 (by decide)), ?_, h4, h5⟩, zRX_cg (zRX_mono e4 (by omega) (by omega)) rfl rfl rfl rfl (U 34 (by decide)) (U 41 (by decide)) (U 40 (by decide))⟩
  · obtain ⟨r3, r4, r5, r6⟩ := i3
    refine ⟨r3, r4, r5, ?_⟩
    dsimp only
    rw [U 1 (by decide), U 2 (by decide), U 3 (by decide), U 4 (by decide), U 5 (by decide), U 6 (by decide), U 7 (by decide), U 8 (by decide), U 9 (by decide)]
    exact r6
  · refine ⟨fun i hi => ?_, i4.2⟩
    obtain ⟨q1, ⟨v', v1, v2, v3⟩, q3⟩ := i4.1 i hi
    refine ⟨q1, ⟨v', v1, v2, ?_⟩, q3⟩
    dsimp only
    rw [zup_s, zu_n]
    · exact v3
    · intro e
      rw [e] at v2
      exact r1 i hi v2
  · refine ⟨h3.1, fun i hi => ?_⟩
    dsimp only
    rw [zup_s]
    obtain ⟨q1, q2⟩ := h3.2 i hi
    by_cases hiv : i = v
    · subst hiv
      rw [zu_s, zu_s]
      refine ⟨rfl, ?_⟩
      rcases q2 with q2 | q2
      · rw [q2]
        exact Or.inr rfl
      · rw [q2]
        exact Or.inl rfl
    · rw [zu_n hiv, zu_n hiv]
      exact ⟨q1, q2⟩
theorem zRF_most {F f r : Nat} {t : zsT} {m : zsM} {x : Int32} (hr : zRF F t m) (hf : f < F) (h3 : r < 3) : zRF F (upd t.1 (f * 13 + (10 + r)) x, t.2) (m.1, va_up m.2 9 (upd (m.2 9) (3 * f + r) x)) := by
  obtain ⟨h1, h2, h4, h5⟩ := hr
  refine ⟨h1, h2, h4, fun i hi => ?_⟩
  obtain ⟨g1, g2, g3, g4, g5, g6, g7, g8⟩ := h5 i hi
  dsimp only
  rw [zup_n (show 1 ≠ 9 by decide), zup_n (show 2 ≠ 9 by decide), zup_n (show 4 ≠ 9 by decide), zup_n (show 3 ≠ 9 by decide), zup_n (show 5 ≠ 9 by decide), zup_n (show 6 ≠ 9 by decide), zup_n (show 7 ≠ 9 by decide), zup_n (show 8 ≠ 9 by decide), zup_s]
  refine ⟨?_, ?_, ?_, ?_, ?_, ?_, ?_, fun q hq => ⟨?_, ?_⟩⟩
  · rw [zu_n (by omega), g1]
  · rw [zu_n (by omega), g2]
  · rw [zu_n (by omega), g3]
  · rw [zu_n (by omega), g4]
  · rw [zu_n (by omega), g5]
  · rw [zu_n (by omega), g6]
  · rw [zu_n (by omega), g7]
  · rw [zu_n (by omega), (g8 q hq).1]
  · by_cases hif : i = f ∧ q = r
    · obtain ⟨rfl, rfl⟩ := hif
      rw [zu_s, zu_s]
    · rw [zu_n (by omega), zu_n (by omega), (g8 q hq).2]
theorem zFR_both {F f r v : Nat} {t : zsT} {wall : Nat → Int32} (hr : zFR F t wall) (h3 : r < 3) (hv : v < 10) : zFR F (upd (upd t.1 (f * 13 + (10 + r)) (nI v)) (f * 13 + (7 + r)) (nI v), t.2) wall := by
  obtain ⟨h1, h2⟩ := hr
  refine ⟨fun i hi => ?_, fun i k hi hk he => ?_⟩
  · obtain ⟨g1, g2, g3, g4, g5, g6, g7⟩ := h1 i hi
    have U : ∀ q, q < 7 → upd (upd t.1 (f * 13 + (10 + r)) (nI v)) (f * 13 + (7 + r)) (nI v) (i * 13 + q) = t.1 (i * 13 + q) := fun q hq => by
      rw [zu_n (by omega), zu_n (by omega)]
    dsimp only
    rw [U 0 (by omega), U 1 (by omega), U 2 (by omega), U 3 (by omega), U 4 (by omega), U 5 (by omega), U 6 (by omega)]
    refine ⟨g1, g2, g3, g4, g5, g6, fun q hq => ?_⟩
    by_cases hif : i = f ∧ q = r
    · obtain ⟨rfl, rfl⟩ := hif
      exact ⟨v, v, Nat.le_refl _, hv, zu_s, (zu_n (by omega)).trans zu_s⟩
    · rw [zu_n (show i * 13 + (7 + q) ≠ f * 13 + (7 + r) by omega), zu_n (show i * 13 + (7 + q) ≠ f * 13 + (10 + r) by omega), zu_n (show i * 13 + (10 + q) ≠ f * 13 + (7 + r) by omega), zu_n (show i * 13 + (10 + q) ≠ f * 13 + (10 + r) by omega)]
      exact g7 q hq
  · dsimp only at he
    rw [zu_n (by omega), zu_n (by omega), zu_n (by omega), zu_n (by omega)] at he
    exact h2 i k hi hk he
theorem z_on {F r : Nat} {o : zsT} {ei : Nat → Int32} {m : zsM} (f3 : zsF) (h : zRE F r o ei m) (hr : r < 1000) : (k_En_isOn (f3, o, ei) = some 0 ∧ m.1 19 = 0 ∧ ei 4 = nI 0 ∧ m.1 22 = nI 0 ∧ zRO 0 o m) ∨ (k_En_isOn (f3, o, ei) = some 1 ∧ m.1 19 = 1 ∧ ∃ M n q, M ≤ F ∧ zRO M o m ∧ n < M ∧ 0 < q ∧ q ≤ r ∧ ei 4 = nI q ∧ m.1 22 = nI q ∧ ei 5 = nI n ∧ m.1 20 = nI n ∧ ei 6 = m.1 23 ∧ ei 7 = m.1 24) := by
  obtain ⟨-, -, -, -, M, e5, e6, e7⟩ := h
  rcases e7 with ⟨g0, g1, g2, g3⟩ | ⟨n, q, g1, g2, g3, g4, g5, g6, g7, g8, g9, g10⟩
  · subst g0
    exact Or.inl ⟨by rw [en_isOn g1 (by omega), if_pos rfl], g2, g1, g3, e6⟩
  · exact Or.inr ⟨by rw [en_isOn g4 (by omega), if_neg (by omega)], g6, M, n, q, e5, e6, g1, g2, g3, g4, g5, g7, g8, g9, g10⟩
theorem op_amount : OP_amount zRR := by
  intro k x m a1 a2 a3 hk h
  have hm := zRR_mono h
  obtain ⟨P, I, R, W, ⟨⟨⟨⟨j, c, p⟩, t, fi⟩, o, ei⟩, w, pw, rs⟩, K, sv⟩ := x
  have hrf := zRR_refuse (W' := W) (m1 := m) 2 h rfl (fun _ _ _ => rfl)
  obtain ⟨⟨F, ⟨-, -, hr, -⟩, hE, hw, -⟩, -⟩ := id h
  dsimp only at hr hw hE
  have hF := hr.1
  unfold k_EL_amount k_Mo_amount k_Mo_isBetween
  dsimp only
  rcases fi_has (c3 := (j, c, p)) (fi := fi) a1 hr with ⟨f, hf, rfl, c1, c2⟩ | ⟨c1, c2⟩
  rotate_left
  · rw [c1, c2, Option.bind_some, Option.bind_some, if_pos rfl, if_pos rfl]
    exact ⟨_, _, _, rfl, rfl, hm⟩
  rw [c1, c2, Option.bind_some, Option.bind_some, if_neg (show ¬ (1 : Int32) = 0 by decide), if_neg (show ¬ (1 : Int32) = 0 by decide)]
  by_cases s0 : a2 < 0
  · rw [if_pos s0, if_pos s0]
    exact ⟨_, _, _, rfl, rfl, hm⟩
  rw [if_neg s0, if_neg s0]
  obtain ⟨r, hr2, rfl⟩ := nI_of s0
  by_cases s1 : r < 3
  rotate_left
  · rw [if_neg (show ¬ nI r < 3 from nI_nlt (b := 3) (by omega) (by omega)), if_pos (show (2 : Int32) < nI r from nI_lt (a := 2) (by omega) (by omega))]
    exact ⟨_, _, _, rfl, rfl, hm⟩
  rw [if_pos (show nI r < 3 from nI_lt (b := 3) s1 (by omega)), if_neg (show ¬ (2 : Int32) < nI r from nI_nlt (a := 2) (by omega) (by omega)), Option.bind_some, if_neg (show ¬ (1 : Int32) = 0 by decide)]
  by_cases s2 : a3 < 0
  · rw [if_pos s2, if_pos s2]
    exact ⟨_, _, _, rfl, rfl, hm⟩
  rw [if_neg s2, if_neg s2]
  by_cases s3 : 9 < a3
  · rw [if_pos s3, if_pos s3]
    exact ⟨_, _, _, rfl, rfl, hm⟩
  rw [if_neg s3, if_neg s3, Option.bind_some, if_neg (show ¬ (1 : Int32) = 0 by decide)]
  obtain ⟨v, -, v9, rfl⟩ := z_rng (lo := 0) (hi := 9) (by omega) (Or.inr s2) s2 s3 (by omega)
  rcases z_on ((j, c, p), t, fi) hE (by omega) with ⟨o1, o2, -⟩ | ⟨o1, o2, -⟩
  rotate_left
  · rw [o1, o2, Option.bind_some, if_neg (show ¬ (1 : Int32) = 0 by decide), if_pos rfl]
    exact ⟨_, _, _, rfl, rfl, hrf⟩
  rw [o1, o2, Option.bind_some, if_pos rfl, if_neg (show ¬ (0 : Int32) = 1 by decide)]
  obtain ⟨K', m1, e1, e2, e3, e4, e5, e6⟩ := r_keepX (by omega) h.1 h.2
  dsimp only at e1 e3 e4
  obtain ⟨h1, h2, h3, h4, h5⟩ := zSS_F e3 hr
  obtain ⟨i1, i2, i3, i4, i5, i6⟩ := h1
  have hz : ¬ zOut (nI (3 * f + r)) 24 := zo_in (by omega) (by omega)
  obtain ⟨-, -, -, -, -, -, -, q8⟩ := i3.2.2.2 f hf
  have x10 : (10 : Int32) + nI r = nI (10 + r) := nI_add 10 r
  have x7 : (7 : Int32) + nI r = nI (7 + r) := nI_add 7 r
  have x3 : (3 : Int32) * nI f + nI r = nI (3 * f + r) := by
    rw [show (3 : Int32) * nI f = nI (3 * f) from pk_mul 3 f, nI_add]
  unfold k_Fi_at k_Fi_put
  rw [e1, e2, Option.bind_some, Option.bind_some, x10, x7, x3, fi_get i3.2.1 i3.1 hf (by omega), Option.bind_some, Option.bind_some]
  dsimp only
  rw [fi_set i3.2.1 i3.1 hf (by omega), Option.bind_some, Option.bind_some]
  dsimp only
  rw [show k_Ta_set 13 104 (upd t.1 (f * 13 + (10 + r)) (nI v), t.2) (nI f) (nI (7 + r)) (nI v) = _ from fi_set i3.2.1 i3.1 hf (by omega), Option.bind_some, Option.bind_some, if_neg hz, if_neg hz, if_neg hz]
  simp only [nI_clamp (show 3 * f + r < 2 ^ 31 by omega)]
  have hA := zRF_amt (x := nI v) (zRF_most (x := nI v) i3 hf s1) hf s1 m1.1 rfl
  have h8 : va_up (va_up m1.2 9 (upd (m1.2 9) (3 * f + r) (nI v))) 8 (upd (m1.2 8) (3 * f + r) (nI v)) = va_up (va_up m1.2 9 (upd (m1.2 9) (3 * f + r) (nI v))) 8 (upd (va_up m1.2 9 (upd (m1.2 9) (3 * f + r) (nI v)) 8) (3 * f + r) (nI v)) := by
    rw [zup_n (f := m1.2) (show 8 ≠ 9 by decide)]
  have U : ∀ a, a ≠ 8 → a ≠ 9 → va_up (va_up m1.2 9 (upd (m1.2 9) (3 * f + r) (nI v))) 8 (upd (m1.2 8) (3 * f + r) (nI v)) a = m1.2 a := fun a h8 h9 => by
    rw [zup_n h8, zup_n h9]
  refine ⟨_, _, (m1.1, va_up (va_up m1.2 9 (upd (m1.2 9) (3 * f + r) (nI v))) 8 (upd (m1.2 8) (3 * f + r) (nI v))), rfl, by rw [(q8 r s1).2], ⟨F, ⟨?_, ?_, ?_, ?_, i5, i6⟩, zRE_cg h2 (Nat.le_refl _) (by omega) (fun _ _ _ => rfl) (U 10 (by decide) (by decide)), ?_, ?_, h5⟩, zRX_cg (zRX_mono e4 (by omega) (by omega)) rfl rfl rfl rfl (U 34 (by decide) (by decide)) (U 41 (by decide) (by decide)) (U 40 (by decide) (by decide))⟩
  · dsimp only
    rw [U 13 (by decide) (by decide)]
    exact zRJ_mono i1 (by omega)
  · dsimp only
    rw [U 15 (by decide) (by decide)]
    exact i2
  · rw [h8]
    exact hA
  · dsimp only
    rw [U 0 (by decide) (by decide)]
    exact zFR_both i4 s1 (by omega)
  · dsimp only
    rw [U 0 (by decide) (by decide)]
    exact h3
  · dsimp only
    rw [U 33 (by decide) (by decide)]
    exact h4
theorem op_rest : OP_rest zRR := by
  intro k x m a1 hk h
  have hm := zRR_mono h
  obtain ⟨P, I, R, W, ⟨⟨⟨⟨j, c, p⟩, t, fi⟩, o, ei⟩, w, pw, rs⟩, K, sv⟩ := x
  have hrf2 := zRR_refuse (W' := W) (m1 := m) 2 h rfl (fun _ _ _ => rfl)
  have hrf10 := zRR_refuse (W' := W) (m1 := m) 10 h rfl (fun _ _ _ => rfl)
  obtain ⟨⟨F, ⟨-, -, hr, -⟩, hE, hw, -⟩, -⟩ := id h
  dsimp only at hr hw hE
  have hF := hr.1
  have hl : (∃ l, (l = 0 ∨ l = 1) ∧ a1 = nI l) ∨ (¬ a1 = 0 ∧ ¬ a1 = 1 ∧ k_Mo_isBetween a1 0 1 = some 0) := by
    unfold k_Mo_isBetween
    by_cases s0 : a1 < 0
    · rw [if_pos s0]
      refine Or.inr ⟨fun e => ?_, fun e => ?_, rfl⟩
      · rw [e] at s0
        exact absurd s0 (by decide)
      · rw [e] at s0
        exact absurd s0 (by decide)
    · rw [if_neg s0]
      by_cases s1 : 1 < a1
      · rw [if_pos s1]
        refine Or.inr ⟨fun e => ?_, fun e => ?_, rfl⟩
        · rw [e] at s1
          exact absurd s1 (by decide)
        · rw [e] at s1
          exact absurd s1 (by decide)
      · obtain ⟨v, -, v9, rfl⟩ := z_rng (lo := 0) (hi := 1) (by omega) (Or.inr s0) s0 s1 (by omega)
        exact Or.inl ⟨v, by omega, rfl⟩
  rcases hl with ⟨l, hl, rfl⟩ | ⟨s0, s1, s2⟩
  rotate_left
  · unfold k_EL_rest k_Mo_rest
    rw [if_neg s0, if_neg s1, s2, Option.bind_some, if_pos rfl]
    exact ⟨_, _, _, rfl, rfl, hm⟩
  have hcls : k_EL_rest (P, I, R, W, ((((j, c, p), t, fi), o, ei), w, pw, rs), K, sv) (nI l) = k_EL_rest_11 (nI l) (P, I, R, W, ((((j, c, p), t, fi), o, ei), w, pw, rs), K, sv) := by
    unfold k_EL_rest
    rcases hl with rfl | rfl
    · rw [if_pos nI_0]
    · rw [if_neg (by decide), if_pos (show nI 1 = 1 from rfl)]
  have hbt : k_Mo_isBetween (nI l) 0 1 = some 1 := by
    unfold k_Mo_isBetween
    rcases hl with rfl | rfl
    · rfl
    · rfl
  rw [hcls]
  unfold k_EL_rest_11 k_Mo_rest
  dsimp only
  rw [hbt, Option.bind_some, if_neg (show ¬ (1 : Int32) = 0 by decide)]
  rcases z_on ((j, c, p), t, fi) hE (by omega) with ⟨o1, o2, -⟩ | ⟨o1, o2, -⟩
  rotate_left
  · rw [o1, o2, Option.bind_some, if_neg (show ¬ (1 : Int32) = 0 by decide), if_pos rfl]
    exact ⟨_, _, _, rfl, rfl, hrf2⟩
  rw [o1, o2, Option.bind_some, if_pos rfl, if_neg (show ¬ (0 : Int32) = 1 by decide)]
  unfold k_Fi_size k_Ta_used
  dsimp only
  rw [hr.2.1, hr.2.2.1, Option.bind_some, Option.bind_some]
  by_cases hF0 : F = 0
  · rw [if_pos (show nI F = 0 from by rw [hF0]; rfl), if_pos (show nI F = 0 from by rw [hF0]; rfl)]
    exact ⟨_, _, _, rfl, rfl, hrf10⟩
  rw [if_neg (nI_ne0 (show 0 < F by omega) (by omega)), if_neg (nI_ne0 (show 0 < F by omega) (by omega))]
  obtain ⟨K', m1, e1, e2, e3, e4, e5, e6⟩ := r_keepX (by omega) h.1 h.2
  dsimp only at e1 e3 e4
  obtain ⟨h1, h2, h3, h4, h5⟩ := zSS_F e3 hr
  rw [e1, e2, Option.bind_some, Option.bind_some]
  have h1' : zRI (13000 * k) F j c t fi (upd m1.1 29 (m1.1 29 + 1), m1.2) := zRI_cg h1 (fun i hi => zu_n (by omega)) (fun _ _ => rfl)
  obtain ⟨v, j', c', t', fi', m2, g1, g2, g3, g4⟩ := r_rest_lp (p := p) (ei := ei) (P := P) (I := I) (R := R) (W := W) (o := o) (w := w) (pw := pw) (rs := rs + 1) (K := K') (sv := sv) hl F 0 (13000 * k) zFu zFu 0 j c t fi (upd m1.1 29 (m1.1 29 + 1), m1.2) (by omega) (z_fu (by omega)) (z_fu (by omega)) h1' (by omega)
  have I1 : ∀ i, i ≠ 14 → i ≠ 16 → i ≠ 17 → i ≠ 18 → i ≠ 29 → m2.1 i = m1.1 i := fun i a1 a2 a3 a4 a5 => (g4.1 i a1 a2 a3 a4).trans (zu_n a5)
  refine ⟨v, _, m2, g1, g2, ⟨F, zRI_mono g3 (by omega), zRE_cg h2 (Nat.le_refl _) (by omega) (fun i q1 q2 => I1 i (by omega) (by omega) (by omega) (by omega) (by omega)) (g4.2 10 (by decide) (by decide) (by decide) (by decide)), ?_, ?_, ?_⟩, zRX_cg (zRX_mono e4 (by omega) (by omega)) (I1 36 (by decide) (by decide) (by decide) (by decide) (by decide)) (I1 12 (by decide) (by decide) (by decide) (by decide) (by decide)) (I1 44 (by decide) (by decide) (by decide) (by decide) (by decide)) (I1 42 (by decide) (by decide) (by decide) (by decide) (by decide)) (g4.2 34 (by decide) (by decide) (by decide) (by decide)) (g4.2 41 (by decide) (by decide) (by decide) (by decide)) (g4.2 40 (by decide) (by decide) (by decide) (by decide))⟩
  · dsimp only
    rw [g4.2 0 (by decide) (by decide) (by decide) (by decide)]
    exact h3
  · dsimp only
    rw [I1 38 (by decide) (by decide) (by decide) (by decide) (by decide), g4.2 33 (by decide) (by decide) (by decide) (by decide)]
    exact h4
  · dsimp only
    rw [g4.1 29 (by decide) (by decide) (by decide) (by decide), h5]
    dsimp only
    rw [zu_s]
