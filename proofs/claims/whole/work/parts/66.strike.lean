theorem r_act {b r F M n q num : Nat} {j c t o : zsT} {p fi ei : Nat → Int32} {m : zsM} {f : Nat} (h : zRI b F j c t fi m) (hE : zRE F r o ei m) (ho : zRO M o m) (hMF : M ≤ F) (hn : n < M) (hq0 : 0 < q) (hqr : q ≤ r) (y4 : ei 4 = nI q) (y22 : m.1 22 = nI q) (y19 : m.1 19 = 1) (y5 : ei 5 = nI n) (y20 : m.1 20 = nI n) (y6 : ei 6 = m.1 23) (hf : f < M) (hof : o.1 n = nI f) (hb : b < 2 ^ 27) (hnum : num < 1000) : ∃ j' ei' m', k_En_act (((j, c, p), t, fi), o, ei) (nI num) = some (((j', c, p), t, fi), o, ei') ∧ k_Mo_notes (upd (upd m.1 24 1) 28 (m.1 28 + 1), m.2) 10 (nI f) (nI num) = some m' ∧ zRI (b + 1) F j' c t fi m' ∧ zRE F r o ei' m' ∧ ei' 5 = nI n ∧ m'.1 20 = nI n ∧ (∀ i, i ≠ 14 → i ≠ 24 → i ≠ 28 → m'.1 i = m.1 i) ∧ ∀ i, i ≠ 13 → m'.2 i = m.2 i := by
  obtain ⟨x7, x8, x9, x10, -⟩ := hE
  have hF := h.2.2.1.1
  obtain ⟨ei', hei⟩ : ∃ e, e = upd (upd ei 7 1) 10 (ei 10 + 1) := ⟨_, rfl⟩
  have h1 : zRI b F j c t fi (upd (upd m.1 24 1) 28 (m.1 28 + 1), m.2) := zRI_cg h (fun i hi => by
    dsimp only
    rw [zu_n (by omega), zu_n (by omega)]) (fun _ _ => rfl)
  obtain ⟨j', m', e1, e2, e3, e4⟩ := r_noteI (k := 10) (f := f) (v := num) h1 hb (by omega) (by omega) hnum
  have E' : ∀ i, i ≠ 7 → i ≠ 10 → ei' i = ei i := fun i a1 a2 => by
    rw [hei, zu_n a2, zu_n a1]
  have e7 : ei' 7 = 1 := by
    rw [hei]
    rfl
  have e10 : ei' 10 = ei 10 + 1 := by
    rw [hei]
    rfl
  have M' : ∀ i, i ≠ 14 → i ≠ 24 → i ≠ 28 → m'.1 i = m.1 i := fun i a1 a2 a3 => by
    rw [e4.1 i a1]
    dsimp only
    rw [zu_n a3, zu_n a2]
  have m24 : m'.1 24 = 1 := by
    rw [e4.1 24 (by decide)]
    rfl
  have m28 : m'.1 28 = m.1 28 + 1 := by
    rw [e4.1 28 (by decide)]
    rfl
  have ho' : zRO M o m' := zRO_cg ho (M' 21 (by decide) (by decide) (by decide)) (fun k _ => by rw [e4.2 10 (by decide)])
  obtain ⟨f', hf', hof', c1, c2⟩ := r_cur (f3 := ((j, c, p), t, fi)) ho hn ((E' 5 (by decide) (by decide)).trans y5) y20
  rw [hof] at hof'
  rw [← hof'] at c1
  refine ⟨j', ei', m', ?_, e2, e3, ⟨Or.inr e7, ?_, ?_, ?_, M, hMF, ho', Or.inr ⟨n, q, hn, hq0, hqr, (E' 4 (by decide) (by decide)).trans y4, (M' 22 (by decide) (by decide) (by decide)).trans y22, (M' 19 (by decide) (by decide) (by decide)).trans y19, (E' 5 (by decide) (by decide)).trans y5, (M' 20 (by decide) (by decide) (by decide)).trans y20, ?_, ?_⟩⟩, (E' 5 (by decide) (by decide)).trans y5, (M' 20 (by decide) (by decide) (by decide)).trans y20, M', fun i a1 => e4.2 i a1⟩
  · unfold k_En_act
    dsimp only
    rw [← hei, c1, Option.bind_some, show k_Jo_write j 10 (nI f) (nI num) = some j' from e1, Option.bind_some]
  · rw [E' 8 (by decide) (by decide), M' 26 (by decide) (by decide) (by decide)]
    exact x8
  · rw [E' 9 (by decide) (by decide), M' 27 (by decide) (by decide) (by decide)]
    exact x9
  · rw [e10, m28, x10]
  · rw [E' 6 (by decide) (by decide), M' 23 (by decide) (by decide) (by decide)]
    exact y6
  · rw [e7, m24]
theorem op_strike : OP_strike zRR := by
  intro k x m a1 hk h
  have hm := zRR_mono h
  obtain ⟨P, I, R, W, ⟨⟨⟨⟨j, c, p⟩, t, fi⟩, o, ei⟩, w, pw, rs⟩, K, sv⟩ := x
  have hrf := fun v => zRR_refuse (W' := W) (m1 := m) v h rfl (fun _ _ _ => rfl)
  obtain ⟨⟨F, hI, hE, hw, -⟩, -⟩ := id h
  dsimp only at hI hE hw
  have hr := hI.2.2.1
  have hR := hI.2.2.2.1
  have hF := hr.1
  unfold k_EL_strike k_Mo_strike k_EL_strike_36
  dsimp only
  rcases fi_has (c3 := (j, c, p)) (fi := fi) a1 hr with ⟨g, hg, rfl, c1, c2⟩ | ⟨c1, c2⟩
  rotate_left
  · rw [c1, c2, Option.bind_some, Option.bind_some, if_pos rfl, if_pos rfl]
    exact ⟨_, _, _, rfl, rfl, hm⟩
  rw [c1, c2, Option.bind_some, Option.bind_some, if_neg (show ¬ (1 : Int32) = 0 by decide), if_neg (show ¬ (1 : Int32) = 0 by decide)]
  rcases r_why (P := P) (I := I) (R := R) (W := W) (p := p) (w := w) (pw := pw) (rs := rs) (K := K) (sv := sv) hI hE (by omega) with ⟨o2, -, -, o4⟩ | ⟨o2, o1, M, n, q, f, hMF, ho, hn, hq0, hqk, y4, y22, y5, y20, y6, y7, hf, hof, d1, d2, hcase⟩
  · rw [o4, o2, Option.bind_some, if_neg (show ¬ (1 : Int32) = 0 by decide), if_neg (show ¬ (1 : Int32) = 0 by decide), if_pos rfl]
    exact ⟨_, _, _, rfl, rfl, hrf 1⟩
  rw [o2, if_neg (show ¬ (1 : Int32) = 0 by decide), d2, Option.bind_some]
  rcases hcase with ⟨b1, -, b3⟩ | ⟨b1, -, ⟨b2, b3⟩ | ⟨b2, b3⟩⟩
  · rw [b1, b3, Option.bind_some, Option.bind_some, if_neg (show ¬ (3 : Int32) = 0 by decide), if_neg (show ¬ (3 : Int32) = 0 by decide), if_pos rfl]
    exact ⟨_, _, _, rfl, rfl, hrf 3⟩
  · rw [b1, b3, Option.bind_some, Option.bind_some, if_neg (show ¬ (4 : Int32) = 0 by decide), if_neg (show ¬ (4 : Int32) = 0 by decide), if_neg (show ¬ (1 : Int32) = 0 by decide), b2, if_pos rfl]
    exact ⟨_, _, _, rfl, rfl, hrf 4⟩
  rw [b1, b3, Option.bind_some, Option.bind_some, if_pos rfl, if_neg (show ¬ (1 : Int32) = 0 by decide), b2, if_neg (show ¬ (0 : Int32) = 1 by decide)]
  have hzg : ¬ zOut (nI g) 8 := zo_in (by omega) (by omega)
  have hzf : ¬ zOut (nI f) 8 := zo_in (by omega) (by omega)
  have hcg : (nI g).toNatClampNeg = g := nI_clamp (by omega)
  have hcf : (nI f).toNatClampNeg = f := nI_clamp (by omega)
  have hfF : f < F := by omega
  obtain ⟨-, ⟨u, u1, u2, u3⟩, -⟩ := hR.1 f hfF
  obtain ⟨-, ⟨v, v1, v2, v3⟩, -⟩ := hR.1 g hg
  have a2 := ((hr.2.2.2 f hfF).2.1).trans u2
  have a3 := ((hr.2.2.2 g hg).2.1).trans v2
  have hat : ∀ i, i < F → k_Fi_at ((j, c, p), t, fi) (nI i) 1 = some (t.1 (i * 13 + 1)) := fun i hi => by
    unfold k_Fi_at
    dsimp only
    rw [show k_Ta_get 13 104 t (nI i) 1 = _ from fi_get (q := 1) hr.2.1 hF hi (by omega)]
    rfl
  unfold k_EL_canBeStruck
  dsimp only
  rw [d1, Option.bind_some, fi_foes hr hfF hg, Option.bind_some, if_neg hzg, if_neg hzf, if_neg hzf, if_neg hzg, hat f hfF, hat g hg, u2, v2, fi_isDown hr hg, mo_isDown (by omega)]
  simp only [hcg, hcf, a2, a3, Option.bind_some]
  by_cases s1 : m.2 1 f = m.2 1 g
  · rw [if_pos s1, if_pos rfl, if_pos s1.symm, Option.bind_some, if_pos rfl, if_neg (show ¬ (7 : Int32) = 0 by decide)]
    exact ⟨_, _, _, rfl, rfl, hrf 7⟩
  rw [if_neg s1, if_neg (show ¬ (1 : Int32) = 0 by decide), if_neg (show ¬ m.2 1 g = m.2 1 f from fun e => s1 e.symm)]
  by_cases s2 : m.2 4 g = 0
  · rw [if_pos s2, if_neg (show ¬ (1 : Int32) = 0 by decide), if_neg (show ¬ (1 : Int32) = 0 by decide), Option.bind_some, if_pos rfl, if_neg (show ¬ (7 : Int32) = 0 by decide)]
    exact ⟨_, _, _, rfl, rfl, hrf 7⟩
  rw [if_neg s2, if_pos rfl, if_pos rfl]
  have huv : u ≠ v := fun e => by
    subst e
    have : f = g := hR.2 f g hfF hg (u2.trans v2.symm)
    subst this
    exact s1 rfl
  obtain ⟨z, z1, z2, z3⟩ := r_nbs (m := m) u1 v1 huv
  rw [z1, z2, Option.bind_some, Option.bind_some]
  rcases z3 with rfl | rfl
  · rw [if_pos rfl, if_pos rfl, Option.bind_some, if_pos rfl, if_neg (show ¬ (7 : Int32) = 0 by decide)]
    exact ⟨_, _, _, rfl, rfl, hrf 7⟩
  rw [if_neg (show ¬ (1 : Int32) = 0 by decide), if_neg (show ¬ (1 : Int32) = 0 by decide), Option.bind_some, if_neg (show ¬ (1 : Int32) = 0 by decide), if_pos trivial]
  obtain ⟨K', m1, e1, e2, e3, e4, e5, e6⟩ := r_keepX (by omega) h.1 h.2
  dsimp only at e1 e3 e4
  obtain ⟨h1, h2, h3, h4, h5⟩ := zSS_F e3 hr
  have ho1 : zRO M o m1 := zRO_cg ho (e5 21 (by decide) (by decide) (by decide)) (fun k _ => by rw [e6 10 (by decide)])
  obtain ⟨j2, ei2, m2, f1, f2, f3, f4, -, -, f5, f6⟩ := r_act (p := p) h1 h2 ho1 hMF hn hq0 hqk y4 ((e5 22 (by decide) (by decide) (by decide)).trans y22) ((e5 19 (by decide) (by decide) (by decide)).trans o2) y5 ((e5 20 (by decide) (by decide) (by decide)).trans y20) (y6.trans (e5 23 (by decide) (by decide) (by decide)).symm) hf hof (by omega) (show g < 1000 by omega)
  obtain ⟨l, j3, c3, t3, fi3, m3, s1', s2', s3, s4⟩ := r_hurt (p := p) 5 f3 (by omega) hg
  refine ⟨l, (P, I, R, W, ((((j3, c3, p), t3, fi3), o, ei2), w, pw, rs), K', sv), m3, ?_, ?_, ⟨F, zRI_mono s3 (by omega), zRE_cg f4 (Nat.le_refl _) (by omega) (fun i q1 q2 => s4.1 i (by omega) (by omega) (by omega) (by omega)) (s4.2 10 (by decide) (by decide) (by decide) (by decide)), ?_, ?_, ?_⟩, zRX_cg (zRX_mono e4 (by omega) (by omega)) ?_ ?_ ?_ ?_ ?_ ?_ ?_⟩
  · rw [e1, Option.bind_some, f1, Option.bind_some, s1', Option.bind_some]
  · rw [e2, Option.bind_some, f2, Option.bind_some, s2', Option.bind_some]
  · dsimp only
    rw [s4.2 0 (by decide) (by decide) (by decide) (by decide), f6 0 (by decide)]
    exact h3
  · dsimp only
    rw [s4.1 38 (by decide) (by decide) (by decide) (by decide), f5 38 (by decide) (by decide) (by decide), s4.2 33 (by decide) (by decide) (by decide) (by decide), f6 33 (by decide)]
    exact h4
  · dsimp only
    rw [s4.1 29 (by decide) (by decide) (by decide) (by decide), f5 29 (by decide) (by decide) (by decide)]
    exact h5
  · rw [s4.1 36 (by decide) (by decide) (by decide) (by decide), f5 36 (by decide) (by decide) (by decide)]
  · rw [s4.1 12 (by decide) (by decide) (by decide) (by decide), f5 12 (by decide) (by decide) (by decide)]
  · rw [s4.1 44 (by decide) (by decide) (by decide) (by decide), f5 44 (by decide) (by decide) (by decide)]
  · rw [s4.1 42 (by decide) (by decide) (by decide) (by decide), f5 42 (by decide) (by decide) (by decide)]
  · rw [s4.2 34 (by decide) (by decide) (by decide) (by decide), f6 34 (by decide)]
  · rw [s4.2 41 (by decide) (by decide) (by decide) (by decide), f6 41 (by decide)]
  · rw [s4.2 40 (by decide) (by decide) (by decide) (by decide), f6 40 (by decide)]
