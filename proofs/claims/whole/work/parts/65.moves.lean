theorem r_why {b r F : Nat} {P : zsP} {I R : Int32} {W : zsW} {j c t o w pw : zsT} {p fi ei : Nat → Int32} {rs : Int32} {K : zsK} {sv : zsS} {m : zsM} (hI : zRI b F j c t fi m) (hE : zRE F r o ei m) (hr : r < 1000) : (m.1 19 = 0 ∧ k_En_isOn (((j, c, p), t, fi), o, ei) = some 0 ∧ k_EL_whyCannotAct (P, I, R, W, ((((j, c, p), t, fi), o, ei), w, pw, rs), K, sv) = some 1 ∧ k_EL_whyNoAct (P, I, R, W, ((((j, c, p), t, fi), o, ei), w, pw, rs), K, sv) = some 1) ∨ (m.1 19 = 1 ∧ k_En_isOn (((j, c, p), t, fi), o, ei) = some 1 ∧ ∃ M n q f, M ≤ F ∧ zRO M o m ∧ n < M ∧ 0 < q ∧ q ≤ r ∧ ei 4 = nI q ∧ m.1 22 = nI q ∧ ei 5 = nI n ∧ m.1 20 = nI n ∧ ei 6 = m.1 23 ∧ ei 7 = m.1 24 ∧ f < M ∧ o.1 n = nI f ∧ k_En_current (((j, c, p), t, fi), o, ei) = some (nI f) ∧ k_Mo_current m = some (nI f) ∧ ((k_Mo_canAct m (nI f) = some 0 ∧ k_EL_whyCannotAct (P, I, R, W, ((((j, c, p), t, fi), o, ei), w, pw, rs), K, sv) = some 3 ∧ k_EL_whyNoAct (P, I, R, W, ((((j, c, p), t, fi), o, ei), w, pw, rs), K, sv) = some 3) ∨ (k_Mo_canAct m (nI f) = some 1 ∧ k_EL_whyCannotAct (P, I, R, W, ((((j, c, p), t, fi), o, ei), w, pw, rs), K, sv) = some 0 ∧ ((m.1 24 = 1 ∧ k_EL_whyNoAct (P, I, R, W, ((((j, c, p), t, fi), o, ei), w, pw, rs), K, sv) = some 4) ∨ (m.1 24 = 0 ∧ k_EL_whyNoAct (P, I, R, W, ((((j, c, p), t, fi), o, ei), w, pw, rs), K, sv) = some 0))))) := by
  rcases z_on ((j, c, p), t, fi) hE hr with ⟨o1, o2, -⟩ | ⟨o1, o2, M, n, q, hMF, ho, hn, hq0, hqk, y4, y22, y5, y20, y6, y7⟩
  · have hw : k_EL_whyCannotAct (P, I, R, W, ((((j, c, p), t, fi), o, ei), w, pw, rs), K, sv) = some 1 := by
      unfold k_EL_whyCannotAct
      dsimp only
      rw [o1, Option.bind_some, if_pos rfl]
    refine Or.inl ⟨o2, o1, hw, ?_⟩
    unfold k_EL_whyNoAct
    rw [hw, Option.bind_some, if_neg (show ¬ (1 : Int32) = 0 by decide)]
  · obtain ⟨f, hf, hof, c1, c2⟩ := r_cur (f3 := ((j, c, p), t, fi)) ho hn y5 y20
    obtain ⟨v, v1, v2, v3⟩ := r_canAct (j := j) (p := p) (fi := fi) hI.2.1 hI.2.2.1 (show f < F by omega)
    refine Or.inr ⟨o2, o1, M, n, q, f, hMF, ho, hn, hq0, hqk, y4, y22, y5, y20, y6, y7, hf, hof, c1, c2, ?_⟩
    have hw : k_EL_whyCannotAct (P, I, R, W, ((((j, c, p), t, fi), o, ei), w, pw, rs), K, sv) = some (if v = 0 then 3 else 0) := by
      unfold k_EL_whyCannotAct
      dsimp only
      rw [o1, Option.bind_some, if_neg (show ¬ (1 : Int32) = 0 by decide), c1, Option.bind_some, v1, Option.bind_some]
      split <;> rfl
    rcases v3 with rfl | rfl
    · rw [if_pos rfl] at hw
      refine Or.inl ⟨v2, hw, ?_⟩
      unfold k_EL_whyNoAct
      rw [hw, Option.bind_some, if_neg (show ¬ (3 : Int32) = 0 by decide)]
    · rw [if_neg (by decide)] at hw
      refine Or.inr ⟨v2, hw, ?_⟩
      have hn' : k_EL_whyNoAct (P, I, R, W, ((((j, c, p), t, fi), o, ei), w, pw, rs), K, sv) = if ei 7 = 0 then some 0 else some 4 := by
        unfold k_EL_whyNoAct
        rw [hw, Option.bind_some, if_pos rfl]
      rcases hE.1 with e7 | e7
      · exact Or.inr ⟨by rw [← y7, e7], by rw [hn', if_pos e7]⟩
      · exact Or.inl ⟨by rw [← y7, e7], by rw [hn', if_neg (by rw [e7]; decide)]⟩
theorem op_delay : OP_delay zRR := by
  intro k x m a1 hk h
  have hm := zRR_mono h
  obtain ⟨P, I, R, W, ⟨⟨⟨⟨j, c, p⟩, t, fi⟩, o, ei⟩, w, pw, rs⟩, K, sv⟩ := x
  have hrf := fun v => zRR_refuse (W' := W) (m1 := m) v h rfl (fun _ _ _ => rfl)
  obtain ⟨⟨F, hI, hE, hw, -⟩, -⟩ := id h
  dsimp only at hI hE hw
  have hr := hI.2.2.1
  have hF := hr.1
  unfold k_EL_delay k_Mo_delay k_EL_delay_42
  dsimp only
  rcases fi_has (c3 := (j, c, p)) (fi := fi) a1 hr with ⟨g, hg, rfl, c1, c2⟩ | ⟨c1, c2⟩
  rotate_left
  · rw [c1, c2, Option.bind_some, Option.bind_some, if_pos rfl, if_pos rfl]
    exact ⟨_, _, _, rfl, rfl, hm⟩
  rw [c1, c2, Option.bind_some, Option.bind_some, if_neg (show ¬ (1 : Int32) = 0 by decide), if_neg (show ¬ (1 : Int32) = 0 by decide)]
  rcases r_why (P := P) (I := I) (R := R) (W := W) (p := p) (w := w) (pw := pw) (rs := rs) (K := K) (sv := sv) hI hE (by omega) with ⟨o2, -, -, o4⟩ | ⟨o2, o1, M, n, q, f, hMF, ho, hn, hq0, hqk, y4, y22, y5, y20, y6, y7, hf, hof, d1, d2, hcase⟩
  · rw [o4, o2, Option.bind_some, if_neg (show ¬ (1 : Int32) = 0 by decide), if_neg (show ¬ (1 : Int32) = 0 by decide), if_pos rfl]
    exact ⟨_, _, _, rfl, rfl, hrf 1⟩
  rw [o2, if_neg (show ¬ (1 : Int32) = 0 by decide), d2, Option.bind_some]
  rcases hcase with ⟨b1, -, b3⟩ | ⟨b1, -, ⟨b2, b3⟩ | ⟨b2, b3⟩⟩
  · rw [b1, b3, Option.bind_some, Option.bind_some, if_neg (show ¬ (3 : Int32) = 0 by decide), if_neg (show ¬ (3 : Int32) = 0 by decide), if_pos rfl]
    exact ⟨_, _, _, rfl, rfl, hrf 3⟩
  · rw [b1, b3, Option.bind_some, Option.bind_some, if_neg (show ¬ (4 : Int32) = 0 by decide), if_neg (show ¬ (4 : Int32) = 0 by decide), if_neg (show ¬ (1 : Int32) = 0 by decide), b2, if_pos rfl]
    exact ⟨_, _, _, rfl, rfl, hrf 4⟩
  rw [b1, b3, Option.bind_some, Option.bind_some, if_pos rfl, if_neg (show ¬ (1 : Int32) = 0 by decide), b2, if_neg (show ¬ (0 : Int32) = 1 by decide)]
  unfold k_En_comesLater
  dsimp only
  have hM8 := ho.1
  have hplace : (∃ r, r < M ∧ o.1 r = nI g ∧ n < r ∧ k_En_placeOf (((j, c, p), t, fi), o, ei) (nI g) = some (nI r) ∧ k_Mo_placeOf m (nI g) = some (nI r)) ∨ (∃ v, ¬ nI n < v ∧ k_En_placeOf (((j, c, p), t, fi), o, ei) (nI g) = some v ∧ k_Mo_placeOf m (nI g) = some v) := by
    rcases r_place (f3 := ((j, c, p), t, fi)) (ei := ei) (nI g) ho with ⟨r, r1, r2, r3, r4⟩ | ⟨-, r3, r4⟩
    · by_cases hnr : n < r
      · exact Or.inl ⟨r, r1, r2, hnr, r3, r4⟩
      · exact Or.inr ⟨nI r, nI_nlt (by omega) (by omega), r3, r4⟩
    · refine Or.inr ⟨-5, ?_, r3, r4⟩
      rw [Int32.lt_iff_toInt_lt, nI_toInt (by omega), show (-5 : Int32).toInt = -5 from rfl]
      omega
  rcases hplace with ⟨r, r1, r2, r5, r3, r4⟩ | ⟨v, v1, r3, r4⟩
  rotate_left
  · have w1 : ¬ ei 5 < v := by
      rw [y5]
      exact v1
    have w2 : ¬ m.1 20 < v := by
      rw [y20]
      exact v1
    rw [r3, r4, Option.bind_some, Option.bind_some, if_neg w1, if_neg w2, Option.bind_some, if_pos rfl, if_neg (show ¬ (11 : Int32) = 0 by decide)]
    exact ⟨_, _, _, rfl, rfl, hrf 11⟩
  have w1 : ei 5 < nI r := by
    rw [y5]
    exact nI_lt r5 (by omega)
  have w2 : m.1 20 < nI r := by
    rw [y20]
    exact nI_lt r5 (by omega)
  rw [r3, r4, Option.bind_some, Option.bind_some, if_pos w1, if_pos w2, Option.bind_some, if_neg (show ¬ (1 : Int32) = 0 by decide), if_pos rfl]
  obtain ⟨K', m1, e1, e2, e3, e4, e5, e6⟩ := r_keepX (by omega) h.1 h.2
  dsimp only at e1 e3 e4
  obtain ⟨h1, h2, h3, h4, h5⟩ := zSS_F e3 hr
  have P1 : ∀ i, i ≠ 42 → i ≠ 43 → i ≠ 45 → m1.1 i = m.1 i := e5
  have ho1 : zRO M o m1 := zRO_cg ho (e5 21 (by decide) (by decide) (by decide)) (fun k _ => by rw [e6 10 (by decide)])
  have p20 : m1.1 20 = nI n := (e5 20 (by decide) (by decide) (by decide)).trans y20
  obtain ⟨A', a, f1, f2, f3, f4⟩ := r_behind_lp (f3 := ((j, c, p), t, fi)) (ei := ei) (nI g) hM8 r1 hf (r - n) n zFu zFu o.1 m1 (by omega) (z_fu (by omega)) (z_fu (by omega)) (fun k hk hkn => ho1.2.2.2.1 k hk) (fun f' hf' hne => by
    obtain ⟨i, i1, i2⟩ := ho1.2.2.2.2 f' hf'
    refine ⟨i, i1, fun e => hne ?_, i2⟩
    rw [e, hof] at i2
    exact ((nI_eq (by omega) (by omega)).1 i2).symm) ho1.2.2.1
  have hI2 : zRI (13000 * k) F j c t fi (m1.1, a) := zRI_cg h1 (fun _ _ => rfl) (fun i hi => f4 i (by omega))
  obtain ⟨x7, x8, x9, x10, -⟩ := h2
  obtain ⟨f', j4, c4, p4, t4, fi4, ei4, m4, s1, s2, s3, s4, s5, s6, s7, s8⟩ := r_startE (p := p) (r := k + 1) hI2 f3 hMF hn y5 p20 y4 ((P1 22 (by decide) (by decide) (by decide)).trans y22) hq0 (by omega) (by omega) ((P1 19 (by decide) (by decide) (by decide)).trans o2) x8 x9 x10 (by omega)
  have M4 : ∀ i, i ≠ 14 → i ≠ 16 → i ≠ 17 → i ≠ 18 → (i < 19 ∨ 28 < i) → m4.1 i = m1.1 i := fun i a1 a2 a3 a4 a5 => s7 i a1 a2 a3 a4 (by omega) (by omega) (by omega)
  have N4 : ∀ i, i ≠ 13 → i ≠ 15 → i ≠ 4 → i ≠ 8 → i ≠ 30 → i ≠ 10 → m4.2 i = m1.2 i := fun i a1 a2 a3 a4 a5 a6 => (s8 i a1 a2 a3 a4 a5).trans (f4 i a6)
  refine ⟨nI f', (P, I, R, W, ((((j4, c4, p4), t4, fi4), (A', nI M), ei4), w, pw, rs), K', sv), m4, ?_, ?_, ⟨F, zRI_mono s5 (by omega), s6, ?_, ?_, ?_⟩, zRX_cg (zRX_mono e4 (by omega) (by omega)) (M4 36 (by decide) (by decide) (by decide) (by decide) (by decide)) (M4 12 (by decide) (by decide) (by decide) (by decide) (by decide)) (M4 44 (by decide) (by decide) (by decide) (by decide) (by decide)) (M4 42 (by decide) (by decide) (by decide) (by decide) (by decide)) (N4 34 (by decide) (by decide) (by decide) (by decide) (by decide) (by decide)) (N4 41 (by decide) (by decide) (by decide) (by decide) (by decide) (by decide)) (N4 40 (by decide) (by decide) (by decide) (by decide) (by decide) (by decide))⟩
  · unfold k_En_putBehind
    dsimp only
    rw [e1, Option.bind_some, d1, Option.bind_some, r3, Option.bind_some, y5, show o = (o.1, nI M) from by rw [← ho.2.1], f1, Option.bind_some, s1, Option.bind_some, s3, Option.bind_some]
  · rw [e2, Option.bind_some, p20, f2, s2, Option.bind_some, s4, Option.bind_some]
  · dsimp only
    rw [N4 0 (by decide) (by decide) (by decide) (by decide) (by decide) (by decide)]
    exact h3
  · dsimp only
    rw [M4 38 (by decide) (by decide) (by decide) (by decide) (by decide), N4 33 (by decide) (by decide) (by decide) (by decide) (by decide) (by decide)]
    exact h4
  · exact h5.trans (M4 29 (by decide) (by decide) (by decide) (by decide) (by decide)).symm
theorem zWc_free {F f v : Nat} {t : zsT} {m : zsM} (h1 : m.2 0 v = 0) (h2 : ∀ k, k < F → t.1 (k * 13 + 1) ≠ nI v) : ¬ zWc F f F t m v := by
  rintro (h | ⟨g, g1, g2, -⟩)
  · rw [h1] at h
    exact absurd h (by decide)
  · exact h2 g g1 g2
theorem zWc_own {F f : Nat} {t : zsT} {m : zsM} (hR : zFR F t (m.2 0)) (hf : f < F) : ∃ v, v < 100 ∧ t.1 (f * 13 + 1) = nI v ∧ ¬ zWc F f F t m v := by
  obtain ⟨-, ⟨v, v1, v2, v3⟩, -⟩ := hR.1 f hf
  refine ⟨v, v1, v2, ?_⟩
  rintro (h | ⟨g, g1, g2, g3, -⟩)
  · rw [v3] at h
    exact absurd h (by decide)
  · have : g = f := hR.2 g f g1 hf (g2.trans v2.symm)
    rw [this] at g3
    exact g3 rfl
theorem zRR_w {k : Nat} {P : zsP} {I R : Int32} {W W' : zsW} {y : zsS} {K : zsK} {sv : zsS} {m : zsM} {a : Nat → Nat → Int32} (h : zRR k (P, I, R, W, y, K, sv) m) (ha : ∀ x, x ≠ 31 → x ≠ 32 → a x = m.2 x) : zRR k (P, I, R, W', y, K, sv) (m.1, a) := by
  obtain ⟨h1, h2⟩ := h
  refine ⟨zSS_cg h1 ⟨fun i _ => rfl, fun b c hb => congrFun (ha b (fun e => ?_) (fun e => ?_)) c⟩, zRX_cg h2 rfl rfl rfl rfl (ha 34 (by decide) (by decide)) (ha 41 (by decide) (by decide)) (ha 40 (by decide) (by decide))⟩
  · rw [e] at hb
    unfold zan at hb
    omega
  · rw [e] at hb
    unfold zan at hb
    omega
theorem op_way : OP_way zRR := by
  intro k x m a1 hk h
  have hm := zRR_mono h
  obtain ⟨P, I, R, W, ⟨⟨⟨⟨j, c, p⟩, t, fi⟩, o, ei⟩, w, pw, rs⟩, K, sv⟩ := x
  have hrf := fun v => zRR_refuse (W' := W) (m1 := m) v h rfl (fun _ _ _ => rfl)
  obtain ⟨⟨F, hI, hE, hw, -⟩, -⟩ := id h
  dsimp only at hI hE hw
  have hr := hI.2.2.1
  have hR := hI.2.2.2.1
  have hF := hr.1
  unfold k_EL_way k_Mo_way
  dsimp only
  rcases z_cellc a1 with ⟨v, c1, rfl, c3, c4⟩ | ⟨c3, c4⟩
  rotate_left
  · rw [c3, c4, Option.bind_some, Option.bind_some, if_pos rfl, if_pos rfl]
    exact ⟨_, _, _, rfl, rfl, hm⟩
  rw [c3, c4, Option.bind_some, Option.bind_some, if_neg (show ¬ (1 : Int32) = 0 by decide), if_neg (show ¬ (1 : Int32) = 0 by decide)]
  rcases r_why (P := P) (I := I) (R := R) (W := W) (p := p) (w := w) (pw := pw) (rs := rs) (K := K) (sv := sv) hI hE (by omega) with ⟨o2, o1, -, o4⟩ | ⟨o2, o1, M, n, q, f, hMF, ho, hn, hq0, hqk, y4, y22, y5, y20, y6, y7, hf, hof, d1, d2, hcase⟩
  · rw [o1, o2, Option.bind_some, if_pos rfl, if_pos rfl]
    exact ⟨_, _, _, rfl, rfl, hrf 1⟩
  rw [o1, o2, Option.bind_some, if_neg (show ¬ (1 : Int32) = 0 by decide), if_neg (show ¬ (1 : Int32) = 0 by decide), d1, d2, Option.bind_some, Option.bind_some, if_neg (zo_in (show f < 8 by omega) (by omega))]
  have hat : k_Fi_at ((j, c, p), t, fi) (nI f) 1 = some (t.1 (f * 13 + 1)) := by
    unfold k_Fi_at
    dsimp only
    rw [show k_Ta_get 13 104 t (nI f) 1 = _ from fi_get (q := 1) hr.2.1 hF (show f < F by omega) (by omega)]
    rfl
  have hce := (hr.2.2.2 f (by omega)).2.1
  rw [hat, Option.bind_some]
  simp only [nI_clamp (show f < 2 ^ 31 by omega), hce]
  by_cases s0 : nI v = t.1 (f * 13 + 1)
  · rw [if_pos s0, if_pos s0]
    exact ⟨_, _, _, rfl, rfl, hm⟩
  rw [if_neg s0, if_neg s0]
  rcases r_free (c3 := (j, c, p)) (o := o) (pw := pw) (fi := fi) (ei := ei) (rs := rs) hw hr c1 with ⟨f1, f2, f3, f4⟩ | ⟨f1, f2⟩
  · obtain ⟨u, W', a, g1, g2, g3, g4⟩ := r_measure (c3 := (j, c, p)) (o := o) (pw := pw) (fi := fi) (ei := ei) (rs := rs) W hr hR hw (show f < F by omega) d2 c1 (zWc_free f3 f4)
    have hfree : k_Mo_isFree (m.1, a) (nI v) = some 1 := by
      rcases r_free (c3 := (j, c, p)) (o := o) (pw := pw) (fi := fi) (ei := ei) (rs := rs) (m := (m.1, a)) (by
        dsimp only
        rw [g3 0 (by decide) (by decide)]
        exact hw) (zRF_cg hr rfl (fun i hi => g3 i (by omega) (by omega))) c1 with ⟨-, x2, -⟩ | ⟨x1, -⟩
      · exact x2
      · rw [f1] at x1
        exact absurd (Option.some.inj x1) (by decide)
    have hm2 := zRR_mono (zRR_w (W' := W') h g3)
    rw [f1, Option.bind_some, if_neg (show ¬ (1 : Int32) = 0 by decide), g1, g2, Option.bind_some, Option.bind_some, hfree, Option.bind_some, if_neg (show ¬ (1 : Int32) = 0 by decide), if_neg (zo_in c1 (by omega))]
    simp only [nI_clamp (show v < 2 ^ 31 by omega)]
    rcases g4 with ⟨rfl, x2⟩ | ⟨d, dd, rfl, x3⟩
    · rw [if_pos x2]
      exact ⟨_, _, _, rfl, rfl, hm2⟩
    · rw [if_neg (show ¬ a 31 v < 0 by rw [x3]; exact z_ltz (by omega)), if_neg (zo_in c1 (by omega)), x3]
      exact ⟨_, _, _, rfl, rfl, hm2⟩
  · obtain ⟨v0, v1, v2, v3⟩ := zWc_own (m := m) hR (show f < F by omega)
    obtain ⟨u, W', a, g1, g2, g3, g4⟩ := r_measure (c3 := (j, c, p)) (o := o) (pw := pw) (fi := fi) (ei := ei) (rs := rs) W hr hR hw (show f < F by omega) d2 v1 v3
    have hfree : k_Mo_isFree (m.1, a) (nI v) = some 0 := by
      rcases r_free (c3 := (j, c, p)) (o := o) (pw := pw) (fi := fi) (ei := ei) (rs := rs) (m := (m.1, a)) (by
        dsimp only
        rw [g3 0 (by decide) (by decide)]
        exact hw) (zRF_cg hr rfl (fun i hi => g3 i (by omega) (by omega))) c1 with ⟨x1, -⟩ | ⟨-, x2⟩
      · rw [f1] at x1
        exact absurd (Option.some.inj x1) (by decide)
      · exact x2
    have hm2 := zRR_mono (zRR_w (W' := W) h g3)
    rw [f1, Option.bind_some, if_pos rfl, g2, Option.bind_some, hfree, Option.bind_some, if_pos rfl]
    exact ⟨_, _, _, rfl, rfl, hm2⟩
theorem op_move : OP_move zRR := by
  intro k x m a1 hk h
  have hm := zRR_mono h
  obtain ⟨P, I, R, W, ⟨⟨⟨⟨j, c, p⟩, t, fi⟩, o, ei⟩, w, pw, rs⟩, K, sv⟩ := x
  have hrf := fun v => zRR_refuse (W' := W) (m1 := m) v h rfl (fun _ _ _ => rfl)
  obtain ⟨⟨F, hI, hE, hw, -⟩, -⟩ := id h
  dsimp only at hI hE hw
  have hr := hI.2.2.1
  have hR := hI.2.2.2.1
  have hF := hr.1
  unfold k_EL_move k_Mo_move k_EL_move_31
  dsimp only
  rcases z_cellc a1 with ⟨v, c1, rfl, c3, c4⟩ | ⟨c3, c4⟩
  rotate_left
  · rw [c3, c4, Option.bind_some, Option.bind_some, if_pos rfl, if_pos rfl]
    exact ⟨_, _, _, rfl, rfl, hm⟩
  rw [c3, c4, Option.bind_some, Option.bind_some, if_neg (show ¬ (1 : Int32) = 0 by decide), if_neg (show ¬ (1 : Int32) = 0 by decide)]
  rcases r_why (P := P) (I := I) (R := R) (W := W) (p := p) (w := w) (pw := pw) (rs := rs) (K := K) (sv := sv) hI hE (by omega) with ⟨o2, -, o4, -⟩ | ⟨o2, o1, M, n, q, f, hMF, ho, hn, hq0, hqk, y4, y22, y5, y20, y6, y7, hf, hof, d1, d2, hcase⟩
  · rw [o4, o2, Option.bind_some, if_neg (show ¬ (1 : Int32) = 0 by decide), if_neg (show ¬ (1 : Int32) = 0 by decide), if_pos rfl]
    exact ⟨_, _, _, rfl, rfl, hrf 1⟩
  rw [o2, if_neg (show ¬ (1 : Int32) = 0 by decide), d2, Option.bind_some]
  rcases hcase with ⟨b1, b2, -⟩ | ⟨b1, b2, -⟩
  · rw [b1, b2, Option.bind_some, Option.bind_some, if_neg (show ¬ (3 : Int32) = 0 by decide), if_neg (show ¬ (3 : Int32) = 0 by decide), if_pos rfl]
    exact ⟨_, _, _, rfl, rfl, hrf 3⟩
  rw [b1, b2, Option.bind_some, Option.bind_some, if_pos rfl, if_neg (show ¬ (1 : Int32) = 0 by decide)]
  rcases r_free (c3 := (j, c, p)) (o := o) (pw := pw) (fi := fi) (ei := ei) (rs := rs) hw hr c1 with ⟨f1, f2, f3, f4⟩ | ⟨f1, f2⟩
  rotate_left
  · rw [f1, f2, Option.bind_some, Option.bind_some, if_pos rfl, if_pos rfl, if_neg (show ¬ (5 : Int32) = 0 by decide)]
    exact ⟨_, _, _, rfl, rfl, hrf 5⟩
  obtain ⟨u, W', a, g1, g2, g3, g4⟩ := r_measure (c3 := (j, c, p)) (o := o) (pw := pw) (fi := fi) (ei := ei) (rs := rs) W hr hR hw (show f < F by omega) d2 c1 (zWc_free f3 f4)
  have hrf6 := zRR_refuse (W' := W') (m1 := (m.1, a)) 6 h rfl g3
  rw [f1, f2, Option.bind_some, Option.bind_some, if_neg (show ¬ (1 : Int32) = 0 by decide), if_neg (show ¬ (1 : Int32) = 0 by decide), if_pos rfl, d1, Option.bind_some, g1, g2, Option.bind_some, Option.bind_some, if_neg (zo_in c1 (by omega))]
  simp only [nI_clamp (show v < 2 ^ 31 by omega)]
  rcases g4 with ⟨rfl, x2⟩ | ⟨d, dd, rfl, x3⟩
  · rw [if_pos rfl, if_pos x2]
    exact ⟨_, _, _, rfl, rfl, hrf6⟩
  rw [if_neg (show ¬ nI d = (-5 : Int32) from fun e => by
    have q1 := nI_toInt (n := d) (by omega)
    rw [e] at q1
    have q2 : (-5 : Int32).toInt = -5 := rfl
    omega), if_neg (show ¬ a 31 v < 0 by rw [x3]; exact z_ltz (by omega)), if_neg (zo_in c1 (by omega)), x3]
  have hc2 := hI.2.1
  have ho2 : zRO M o (m.1, a) := zRO_cg ho rfl (fun k _ => by
    dsimp only
    rw [g3 10 (by decide) (by decide)])
  obtain ⟨lf, l1, l2⟩ := r_left (m := (m.1, a)) (P := P) (I := I) (R := R) (W := W') (w := w) (pw := pw) (rs := rs) (K := K) (sv := sv) (j := j) (p := p) (fi := fi) (by
    dsimp only
    rw [g3 15 (by decide) (by decide)]
    exact hc2) (zRF_cg hr rfl (fun i hi => g3 i (by omega) (by omega))) ho2 hMF hn y5 y20 y6
  rw [l1, l2, Option.bind_some, Option.bind_some]
  by_cases hlt : lf < nI d
  · rw [if_pos hlt, if_pos hlt]
    exact ⟨_, _, _, rfl, rfl, hrf6⟩
  rw [if_neg hlt, if_neg hlt]
  have h' := zRR_w (W' := W') h g3
  obtain ⟨K', m1, e1, e2, e3, e4, e5, e6⟩ := r_keepX (by omega) h'.1 h'.2
  dsimp only at e1 e3 e4
  obtain ⟨h1, h2, h3, h4, h5⟩ := zSS_F e3 hr
  have hzf : ¬ zOut (nI f) 8 := zo_in (by omega) (by omega)
  have hzv : ¬ zOut (nI v) 100 := zo_in c1 (by omega)
  have p31 : m1.2 31 v = nI d := by
    rw [e6 31 (by decide)]
    exact x3
  have p23 : m1.1 23 = m.1 23 := e5 23 (by decide) (by decide) (by decide)
  obtain ⟨j', t', m2, s1, s2, s3, s4, s5, s6⟩ := r_moveTo (p := p) (m1.1 23 + nI d) h1 (by omega) (show f < F by omega) c1 (by
    rw [e6 0 (by decide)]
    dsimp only
    rw [g3 0 (by decide) (by decide)]
    exact f3) f4
  have hcur : k_En_current (((j, c, p), t, fi), o, upd ei 6 (ei 6 + nI d)) = some (nI f) := by
    obtain ⟨f', hf', hof', z1, z2⟩ := r_cur (f3 := ((j, c, p), t, fi)) (ei := upd ei 6 (ei 6 + nI d)) ho hn ((zu_n (by decide)).trans y5) y20
    rw [z1]
    rw [hof] at hof'
    rw [hof']
  have P2 : ∀ i, i ≠ 14 → i ≠ 23 → i ≠ 42 → i ≠ 43 → i ≠ 45 → m2.1 i = m.1 i := fun i a1 a2 a3 a4 a5 => (s5 i a1 a2).trans (e5 i a3 a4 a5)
  have ho3 : zRO M o m2 := zRO_cg ho (P2 21 (by decide) (by decide) (by decide) (by decide) (by decide)) (fun k _ => by
    rw [s6 10 (by decide) (by decide), e6 10 (by decide)]
    dsimp only
    rw [g3 10 (by decide) (by decide)])
  have q6 : upd ei 6 (ei 6 + nI d) 6 = m2.1 23 := by
    rw [zu_s, s4, p23, y6]
  obtain ⟨lf2, l3, l4⟩ := r_left (m := m2) (P := P) (I := I) (R := R) (W := W') (w := w) (pw := pw) (rs := rs) (K := K') (sv := sv) (j := j') (p := p) (fi := fi) s3.2.1 s3.2.2.1 ho3 hMF hn ((zu_n (show 5 ≠ 6 by decide)).trans y5) ((P2 20 (by decide) (by decide) (by decide) (by decide) (by decide)).trans y20) q6
  obtain ⟨x7, x8, x9, x10, -⟩ := h2
  refine ⟨lf2, (P, I, R, W', ((((j', c, p), t', fi), o, upd ei 6 (ei 6 + nI d)), w, pw, rs), K', sv), m2, ?_, ?_, ⟨F, zRI_mono s3 (by omega), ⟨?_, ?_, ?_, ?_, M, hMF, ho3, Or.inr ⟨n, q, hn, hq0, by omega, ?_, ?_, ?_, ?_, ?_, q6, ?_⟩⟩, ?_, ?_, ?_⟩, zRX_cg (zRX_mono e4 (by omega) (by omega)) (s5 36 (by decide) (by decide)) (s5 12 (by decide) (by decide)) (s5 44 (by decide) (by decide)) (s5 42 (by decide) (by decide)) (s6 34 (by decide) (by decide)) (s6 41 (by decide) (by decide)) (s6 40 (by decide) (by decide))⟩
  · rw [e1, Option.bind_some, hcur, Option.bind_some, s1, Option.bind_some, l3, Option.bind_some]
  · rw [e2, Option.bind_some, if_neg hzv, if_neg hzf]
    simp only [nI_clamp (show f < 2 ^ 31 by omega), p31]
    rw [s2, Option.bind_some, l4, Option.bind_some]
  · dsimp only
    rw [zu_n (show 7 ≠ 6 by decide)]
    exact x7
  · dsimp only
    rw [zu_n (show 8 ≠ 6 by decide), s5 26 (by decide) (by decide)]
    exact x8
  · dsimp only
    rw [zu_n (show 9 ≠ 6 by decide), s5 27 (by decide) (by decide)]
    exact x9
  · dsimp only
    rw [zu_n (show 10 ≠ 6 by decide), s5 28 (by decide) (by decide)]
    exact x10
  · dsimp only
    rw [zu_n (show 4 ≠ 6 by decide)]
    exact y4
  · exact (P2 22 (by decide) (by decide) (by decide) (by decide) (by decide)).trans y22
  · exact (P2 19 (by decide) (by decide) (by decide) (by decide) (by decide)).trans o2
  · dsimp only
    rw [zu_n (show 5 ≠ 6 by decide)]
    exact y5
  · exact (P2 20 (by decide) (by decide) (by decide) (by decide) (by decide)).trans y20
  · dsimp only
    rw [zu_n (show 7 ≠ 6 by decide), P2 24 (by decide) (by decide) (by decide) (by decide) (by decide)]
    exact y7
  · dsimp only
    rw [s6 0 (by decide) (by decide)]
    exact h3
  · dsimp only
    rw [s5 38 (by decide) (by decide), s6 33 (by decide) (by decide)]
    exact h4
  · exact h5.trans (s5 29 (by decide) (by decide)).symm
