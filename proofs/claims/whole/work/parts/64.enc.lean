theorem r_startE {b F M n q r : Nat} {j c t o : zsT} {p fi ei : Nat → Int32} {m : zsM} (h : zRI b F j c t fi m) (ho : zRO M o m) (hMF : M ≤ F) (hn : n < M) (h5 : ei 5 = nI n) (h20 : m.1 20 = nI n) (h4 : ei 4 = nI q) (h22 : m.1 22 = nI q) (hq0 : 0 < q) (hqr : q ≤ r) (hq : q < 1000) (h19 : m.1 19 = 1) (h8 : ei 8 = m.1 26) (h9 : ei 9 = m.1 27) (h10 : ei 10 = m.1 28) (hb : b + 6000 < 2 ^ 27) : ∃ f j' c' p' t' fi' ei' m', k_En_startTurn (((j, c, p), t, fi), o, ei) = some (((j', c', p'), t', fi'), o, ei') ∧ k_Mo_beginsTurn m = some m' ∧ k_En_current (((j', c', p'), t', fi'), o, ei') = some (nI f) ∧ k_Mo_current m' = some (nI f) ∧ zRI (b + 3500) F j' c' t' fi' m' ∧ zRE F r o ei' m' ∧ (∀ i, i ≠ 14 → i ≠ 16 → i ≠ 17 → i ≠ 18 → i ≠ 23 → i ≠ 24 → i ≠ 27 → m'.1 i = m.1 i) ∧ ∀ i, i ≠ 13 → i ≠ 15 → i ≠ 4 → i ≠ 8 → i ≠ 30 → m'.2 i = m.2 i := by
  obtain ⟨j', c', p', t', fi', m', e1, e2, e3, e4, e5, e6, e7, e8⟩ := r_start (p := p) h ho hMF hn h5 h20 h4 h22 hq hb
  have ho' : zRO M o m' := zRO_cg ho (e7 21 (by decide) (by decide) (by decide) (by decide) (by decide) (by decide) (by decide)) (fun k _ => by rw [e8 10 (by decide) (by decide) (by decide) (by decide) (by decide)])
  have h20' : m'.1 20 = nI n := (e7 20 (by decide) (by decide) (by decide) (by decide) (by decide) (by decide) (by decide)).trans h20
  obtain ⟨ei', hei⟩ : ∃ ei', ei' = upd (upd (upd ei 6 0) 7 0) 9 (ei 9 + 1) := ⟨_, rfl⟩
  rw [← hei] at e1
  have q4 : ei' 4 = nI q := by
    rw [hei]
    exact h4
  have q5 : ei' 5 = nI n := by
    rw [hei]
    exact h5
  have q6 : ei' 6 = 0 := by
    rw [hei]
    rfl
  have q7 : ei' 7 = 0 := by
    rw [hei]
    rfl
  have q8 : ei' 8 = m.1 26 := by
    rw [hei]
    exact h8
  have q9 : ei' 9 = m.1 27 + 1 := by
    rw [hei, ← h9]
    rfl
  have q10 : ei' 10 = m.1 28 := by
    rw [hei]
    exact h10
  obtain ⟨f, hf, hof, c1, c2⟩ := r_cur (f3 := ((j', c', p'), t', fi')) ho' hn q5 h20'
  refine ⟨f, j', c', p', t', fi', ei', m', e1, e2, c1, c2, e3, ⟨Or.inl q7, ?_, ?_, ?_, M, hMF, ho', Or.inr ⟨n, q, hn, hq0, hqr, q4, ?_, ?_, q5, h20', ?_, ?_⟩⟩, e7, e8⟩
  · rw [e7 26 (by decide) (by decide) (by decide) (by decide) (by decide) (by decide) (by decide)]
    exact q8
  · rw [e6]
    exact q9
  · rw [e7 28 (by decide) (by decide) (by decide) (by decide) (by decide) (by decide) (by decide)]
    exact q10
  · rw [e7 22 (by decide) (by decide) (by decide) (by decide) (by decide) (by decide) (by decide)]
    exact h22
  · rw [e7 19 (by decide) (by decide) (by decide) (by decide) (by decide) (by decide) (by decide)]
    exact h19
  · rw [q6, e4]
  · rw [q7, e5]
theorem op_begin : OP_begin zRR := by
  intro k x m a1 hk h
  have hm := zRR_mono h
  obtain ⟨P, I, R, W, ⟨⟨⟨⟨j, c, p⟩, t, fi⟩, o, ei⟩, w, pw, rs⟩, K, sv⟩ := x
  have hrf2 := zRR_refuse (W' := W) (m1 := m) 2 h rfl (fun _ _ _ => rfl)
  have hrf10 := zRR_refuse (W' := W) (m1 := m) 10 h rfl (fun _ _ _ => rfl)
  obtain ⟨⟨F, ⟨-, -, hr, -⟩, hE, hw, -⟩, -⟩ := id h
  dsimp only at hr hw hE
  have hF := hr.1
  unfold k_EL_begin k_Mo_begin
  dsimp only
  rcases z_on ((j, c, p), t, fi) hE (by omega) with ⟨o1, o2, o3, o4, o5⟩ | ⟨o1, o2, -⟩
  rotate_left
  · rw [o1, o2, Option.bind_some, if_neg (show ¬ (1 : Int32) = 0 by decide), if_pos rfl]
    exact ⟨_, _, _, rfl, rfl, hrf2⟩
  rw [o1, o2, Option.bind_some, if_pos rfl, if_neg (show ¬ (0 : Int32) = 1 by decide)]
  unfold k_Fi_size k_Ta_used
  dsimp only
  rw [hr.2.1, hr.2.2.1, Option.bind_some, Option.bind_some]
  by_cases hF0 : F = 0
  · rw [if_pos (show nI F = 0 from by rw [hF0]; rfl), if_pos (show nI F = 0 from by rw [hF0]; rfl)]
    exact ⟨_, _, _, rfl, rfl, hrf10⟩
  rw [if_neg (nI_ne0 (show 0 < F by omega) (by omega)), if_neg (nI_ne0 (show 0 < F by omega) (by omega))]
  obtain ⟨K', m1, e1, e2, e3, e4, e5, e6⟩ := r_keepX (by omega) h.1 h.2
  dsimp only at e1 e3 e4
  obtain ⟨h1, h2, h3, h4, h5⟩ := zSS_F e3 hr
  rw [e1, e2, Option.bind_some, Option.bind_some]
  obtain ⟨i1, i2, i3, i4, i5, i6⟩ := h1
  obtain ⟨t', o', m2, g1, g2, g3, g4, g5, g6, g7, g8, g9⟩ := r_open_lp (c3 := (j, c, p)) (fi := fi) (ei := ei) a1 F 0 zFu zFu a1 t o (upd m1.1 25 a1, m1.2) (by omega) (z_fu (by omega)) (z_fu (by omega)) (zRF_cg (m' := (upd m1.1 25 a1, m1.2)) i3 (by
    dsimp only
    rw [zu_n (show 11 ≠ 25 by decide)]) (fun _ _ => rfl)) i4 (by
    dsimp only
    exact zu_s) o5.2.1 (fun k hk => by omega) (fun f hf => by omega)
  have I2 : ∀ i, i ≠ 25 → m2.1 i = m1.1 i := fun i hi => (g8 i hi).trans (zu_n hi)
  have A2 : ∀ i, i ≠ 7 → i ≠ 10 → m2.2 i = m1.2 i := fun i a b => g9 i a b
  obtain ⟨m3, hm3⟩ : ∃ m3 : zsM, m3 = (upd (upd (upd (upd (upd m2.1 21 (nI F)) 19 1) 20 0) 22 1) 26 (m2.1 26 + 1), m2.2) := ⟨_, rfl⟩
  obtain ⟨ei3, hei⟩ : ∃ q, q = upd (upd (upd ei 4 1) 5 0) 8 (ei 8 + 1) := ⟨_, rfl⟩
  rw [← hm3] at g2
  rw [← hei] at g1
  have M3 : ∀ i, i ≠ 19 → i ≠ 20 → i ≠ 21 → i ≠ 22 → i ≠ 26 → i ≠ 25 → m3.1 i = m1.1 i := fun i b1 b2 b3 b4 b5 b6 => by
    rw [hm3]
    dsimp only
    rw [zu_n b5, zu_n b4, zu_n b2, zu_n b1, zu_n b3]
    exact I2 i b6
  have N3 : m3.2 = m2.2 := by rw [hm3]
  have z19 : m3.1 19 = 1 := by rw [hm3]; rfl
  have z20 : m3.1 20 = nI 0 := by rw [hm3]; rfl
  have z21 : m3.1 21 = nI F := by rw [hm3]; rfl
  have z22 : m3.1 22 = nI 1 := by rw [hm3]; rfl
  have z26 : m3.1 26 = m2.1 26 + 1 := by rw [hm3]; rfl
  have hI3 : zRI (13000 * k) F j c t' fi m3 := by
    refine ⟨?_, ?_, ⟨g3.1, g3.2.1, ?_, ?_⟩, ?_, ?_, ?_⟩
    · rw [M3 14 (by decide) (by decide) (by decide) (by decide) (by decide) (by decide), N3, A2 13 (by decide) (by decide)]
      exact i1
    · rw [M3 16 (by decide) (by decide) (by decide) (by decide) (by decide) (by decide), N3, A2 15 (by decide) (by decide)]
      exact i2
    · rw [M3 11 (by decide) (by decide) (by decide) (by decide) (by decide) (by decide)]
      exact i3.2.2.1
    · rw [N3]
      exact g3.2.2.2
    · rw [N3]
      exact g4
    · rw [M3 17 (by decide) (by decide) (by decide) (by decide) (by decide) (by decide)]
      exact i5
    · rw [M3 18 (by decide) (by decide) (by decide) (by decide) (by decide) (by decide)]
      exact i6
  have hO3 : zRO F o' m3 := by
    refine ⟨by omega, g5, z21, ?_, g7⟩
    rw [N3]
    exact g6
  obtain ⟨x8, x9, x10, -⟩ := h2.2
  obtain ⟨f, j4, c4, p4, t4, fi4, ei4, m4, s1, s2, s3, s4, s5, s6, s7, s8⟩ := r_startE (p := p) (r := k + 1) hI3 hO3 (Nat.le_refl _) (show 0 < F by omega) (by rw [hei]; rfl) z20 (show ei3 4 = nI 1 by rw [hei]; rfl) z22 (by omega) (by omega) (by omega) z19 (by
    rw [z26, I2 26 (by decide), ← x8, hei]
    rfl) (by
    rw [M3 27 (by decide) (by decide) (by decide) (by decide) (by decide) (by decide), ← x9, hei]
    rfl) (by
    rw [M3 28 (by decide) (by decide) (by decide) (by decide) (by decide) (by decide), ← x10, hei]
    rfl) (by omega)
  have M4 : ∀ i, i ≠ 14 → i ≠ 16 → i ≠ 17 → i ≠ 18 → (i < 19 ∨ 28 < i) → m4.1 i = m1.1 i := fun i a1 a2 a3 a4 a5 => (s7 i a1 a2 a3 a4 (by omega) (by omega) (by omega)).trans (M3 i (by omega) (by omega) (by omega) (by omega) (by omega) (by omega))
  have N4 : ∀ i, i ≠ 13 → i ≠ 15 → i ≠ 4 → i ≠ 8 → i ≠ 30 → i ≠ 7 → i ≠ 10 → m4.2 i = m1.2 i := fun i a1 a2 a3 a4 a5 a6 a7 => (s8 i a1 a2 a3 a4 a5).trans (by rw [N3]; exact A2 i a6 a7)
  refine ⟨nI f, (P, I, R, W, ((((j4, c4, p4), t4, fi4), o', ei4), w, pw, rs), K', sv), m4, ?_, ?_, ⟨F, zRI_mono s5 (by omega), s6, ?_, ?_, ?_⟩, zRX_cg (zRX_mono e4 (by omega) (by omega)) (M4 36 (by decide) (by decide) (by decide) (by decide) (by decide)) (M4 12 (by decide) (by decide) (by decide) (by decide) (by decide)) (M4 44 (by decide) (by decide) (by decide) (by decide) (by decide)) (M4 42 (by decide) (by decide) (by decide) (by decide) (by decide)) (N4 34 (by decide) (by decide) (by decide) (by decide) (by decide) (by decide) (by decide)) (N4 41 (by decide) (by decide) (by decide) (by decide) (by decide) (by decide) (by decide)) (N4 40 (by decide) (by decide) (by decide) (by decide) (by decide) (by decide) (by decide))⟩
  · unfold k_En_open
    rw [show k_En_open_4 a1 zFu a1 0 (((j, c, p), t, fi), o, ei) = _ from g1, Option.bind_some, s1, Option.bind_some, s3, Option.bind_some]
  · rw [show k_Mo_begin_39 a1 zFu 0 (upd m1.1 25 a1, m1.2) = _ from g2, s2, Option.bind_some, s4, Option.bind_some]
  · dsimp only
    rw [N4 0 (by decide) (by decide) (by decide) (by decide) (by decide) (by decide) (by decide)]
    exact h3
  · dsimp only
    rw [M4 38 (by decide) (by decide) (by decide) (by decide) (by decide), N4 33 (by decide) (by decide) (by decide) (by decide) (by decide) (by decide) (by decide)]
    exact h4
  · exact h5.trans (M4 29 (by decide) (by decide) (by decide) (by decide) (by decide)).symm
theorem op_endTurn : OP_endTurn zRR := by
  intro k x m hk h
  have hm := zRR_mono h
  obtain ⟨P, I, R, W, ⟨⟨⟨⟨j, c, p⟩, t, fi⟩, o, ei⟩, w, pw, rs⟩, K, sv⟩ := x
  have hrf := zRR_refuse (W' := W) (m1 := m) 1 h rfl (fun _ _ _ => rfl)
  obtain ⟨⟨F, ⟨-, -, hr, -⟩, hE, hw, -⟩, -⟩ := id h
  dsimp only at hr hw hE
  unfold k_EL_endTurn k_Mo_endTurn
  dsimp only
  rcases z_on ((j, c, p), t, fi) hE (by omega) with ⟨o1, o2, -⟩ | ⟨o1, o2, -⟩
  · rw [o1, o2, Option.bind_some, if_pos rfl, if_pos rfl]
    exact ⟨_, _, _, rfl, rfl, hrf⟩
  rw [o1, o2, Option.bind_some, if_neg (show ¬ (1 : Int32) = 0 by decide), if_neg (show ¬ (1 : Int32) = 0 by decide)]
  obtain ⟨K', m1, e1, e2, e3, e4, e5, e6⟩ := r_keepX (by omega) h.1 h.2
  dsimp only at e1 e3 e4
  obtain ⟨h1, h2, h3, h4, h5⟩ := zSS_F e3 hr
  have p19 : m1.1 19 = 1 := (e5 19 (by decide) (by decide) (by decide)).trans o2
  rcases z_on ((j, c, p), t, fi) h2 (by omega) with ⟨-, q2, -⟩ | ⟨-, -, M, n, q, hMF, ho, hn, hq0, hqk, y4, y22, y5, y20, y6, y7⟩
  · rw [p19] at q2
    exact absurd q2 (by decide)
  obtain ⟨x8, x9, x10, -⟩ := h2.2
  obtain ⟨j2, c2, ei2, m2, n2, q2, g1, g2, g3, g4, g5, g6, g7, g8, g9, g10, g11, g12, g13⟩ := r_leave (p := p) h1 ho hMF hn y5 y20 y4 y22 (by omega) (by omega)
  have ho2 : zRO M o m2 := zRO_cg ho (g12 21 (by decide) (by decide) (by decide) (by decide)) (fun k _ => by rw [g13 10 (by decide) (by decide)])
  obtain ⟨f, j4, c4, p4, t4, fi4, ei4, m4, s1, s2, s3, s4, s5, s6, s7, s8⟩ := r_startE (p := p) (r := k + 1) g3 ho2 hMF g4 g5 g6 g7 g8 (by omega) (by omega) (by omega) ((g12 19 (by decide) (by decide) (by decide) (by decide)).trans p19) (by
    rw [g11 8 (by decide) (by decide), g12 26 (by decide) (by decide) (by decide) (by decide)]
    exact x8) (by
    rw [g11 9 (by decide) (by decide), g12 27 (by decide) (by decide) (by decide) (by decide)]
    exact x9) (by
    rw [g11 10 (by decide) (by decide), g12 28 (by decide) (by decide) (by decide) (by decide)]
    exact x10) (by omega)
  have M4 : ∀ i, i ≠ 14 → i ≠ 16 → i ≠ 17 → i ≠ 18 → (i < 19 ∨ 28 < i) → m4.1 i = m1.1 i := fun i a1 a2 a3 a4 a5 => (s7 i a1 a2 a3 a4 (by omega) (by omega) (by omega)).trans (g12 i (by omega) (by omega) (by omega) (by omega))
  have N4 : ∀ i, i ≠ 13 → i ≠ 15 → i ≠ 4 → i ≠ 8 → i ≠ 30 → m4.2 i = m1.2 i := fun i a1 a2 a3 a4 a5 => (s8 i a1 a2 a3 a4 a5).trans (g13 i a1 a2)
  refine ⟨nI f, (P, I, R, W, ((((j4, c4, p4), t4, fi4), o, ei4), w, pw, rs), K', sv), m4, ?_, ?_, ⟨F, zRI_mono s5 (by omega), s6, ?_, ?_, ?_⟩, zRX_cg (zRX_mono e4 (by omega) (by omega)) (M4 36 (by decide) (by decide) (by decide) (by decide) (by decide)) (M4 12 (by decide) (by decide) (by decide) (by decide) (by decide)) (M4 44 (by decide) (by decide) (by decide) (by decide) (by decide)) (M4 42 (by decide) (by decide) (by decide) (by decide) (by decide)) (N4 34 (by decide) (by decide) (by decide) (by decide) (by decide)) (N4 41 (by decide) (by decide) (by decide) (by decide) (by decide)) (N4 40 (by decide) (by decide) (by decide) (by decide) (by decide))⟩
  · rw [e1, Option.bind_some, g1, Option.bind_some, s1, Option.bind_some, s3, Option.bind_some]
  · rw [e2, Option.bind_some]
    have hb : ((k_Mo_current m1).bind fun o3 => (k_Mo_notes m1 9 o3 (m1.1 22)).bind fun o4 => (k_Mo_counts o4 o3 0).bind fun o5 => (k_Mo_passesTurn o5).bind fun o6 => (k_Mo_current o6).bind fun o7 => some (o7, o6)) = ((k_Mo_current m1).bind fun o3 => (k_Mo_notes m1 9 o3 (m1.1 22)).bind fun o4 => (k_Mo_counts o4 o3 0).bind fun o5 => k_Mo_passesTurn o5).bind fun o6 => (k_Mo_current o6).bind fun o7 => some (o7, o6) := by
      simp only [Option.bind_assoc]
    rw [hb, g2, s2, Option.bind_some, s4, Option.bind_some]
  · dsimp only
    rw [N4 0 (by decide) (by decide) (by decide) (by decide) (by decide)]
    exact h3
  · dsimp only
    rw [M4 38 (by decide) (by decide) (by decide) (by decide) (by decide), N4 33 (by decide) (by decide) (by decide) (by decide) (by decide)]
    exact h4
  · exact h5.trans (M4 29 (by decide) (by decide) (by decide) (by decide) (by decide)).symm
theorem op_finish : OP_finish zRR := by
  intro k x m hk h
  have hm := zRR_mono h
  obtain ⟨P, I, R, W, ⟨⟨⟨⟨j, c, p⟩, t, fi⟩, o, ei⟩, w, pw, rs⟩, K, sv⟩ := x
  have hrf := zRR_refuse (W' := W) (m1 := m) 1 h rfl (fun _ _ _ => rfl)
  obtain ⟨⟨F, ⟨-, -, hr, -⟩, hE, hw, -⟩, -⟩ := id h
  dsimp only at hr hw hE
  have hF := hr.1
  unfold k_EL_finish k_Mo_finish
  dsimp only
  rcases z_on ((j, c, p), t, fi) hE (by omega) with ⟨o1, o2, -⟩ | ⟨o1, o2, -⟩
  · rw [o1, o2, Option.bind_some, if_pos rfl, if_pos rfl]
    exact ⟨_, _, _, rfl, rfl, hrf⟩
  rw [o1, o2, Option.bind_some, if_neg (show ¬ (1 : Int32) = 0 by decide), if_neg (show ¬ (1 : Int32) = 0 by decide)]
  obtain ⟨K', m1, e1, e2, e3, e4, e5, e6⟩ := r_keepX (by omega) h.1 h.2
  dsimp only at e1 e3 e4
  obtain ⟨h1, h2, h3, h4, h5⟩ := zSS_F e3 hr
  have p19 : m1.1 19 = 1 := (e5 19 (by decide) (by decide) (by decide)).trans o2
  rcases z_on ((j, c, p), t, fi) h2 (by omega) with ⟨-, q2, -⟩ | ⟨-, -, M, n, q, hMF, ho, hn, hq0, hqk, y4, y22, y5, y20, y6, y7⟩
  · rw [p19] at q2
    exact absurd q2 (by decide)
  obtain ⟨x7, x8, x9, x10, -⟩ := h2
  obtain ⟨i1, i2, i3, i4, i5, i6⟩ := h1
  obtain ⟨j2, c2, m2, g1, g2, g3, g4, g5⟩ := r_endEnc (p := p) (nI q) i1 (by omega) i2
  obtain ⟨m3, hm3⟩ : ∃ m3 : zsM, m3 = (upd (upd (upd (upd (upd (upd m2.1 19 0) 20 0) 21 0) 22 0) 23 0) 24 0, m2.2) := ⟨_, rfl⟩
  rw [← hm3] at g2
  have M3 : ∀ i, (i < 19 ∨ 24 < i) → m3.1 i = m2.1 i := fun i hi => by
    rw [hm3]
    dsimp only
    rw [zu_n (by omega), zu_n (by omega), zu_n (by omega), zu_n (by omega), zu_n (by omega), zu_n (by omega)]
  have N3 : m3.2 = m2.2 := by rw [hm3]
  have z19 : m3.1 19 = 0 := by rw [hm3]; rfl
  have z21 : m3.1 21 = nI 0 := by rw [hm3]; rfl
  have z22 : m3.1 22 = nI 0 := by rw [hm3]; rfl
  have i3' : zRF F t m3 := by
    have r := zRF_fr g3 i3
    refine ⟨r.1, r.2.1, (M3 11 (by omega)).trans r.2.2.1, ?_⟩
    rw [N3]
    exact r.2.2.2
  obtain ⟨t', a, f1, f2, f3, f4, f5⟩ := r_close_lp (c3 := (j, c, p)) (o := (o.1, nI 0)) (fi := fi) (ei := upd ei 4 0) (nI q) F 0 zFu zFu t m3 (by omega) (z_fu (by omega)) (z_fu (by omega)) i3' (by
    rw [N3, g3.2 0 (by decide) (by decide)]
    exact i4)
  have I3 : ∀ i, i ≠ 14 → i ≠ 16 → (i < 19 ∨ 24 < i) → m3.1 i = m1.1 i := fun i a1 a2 a3 => (M3 i a3).trans (g3.1 i a1 a2)
  have A3 : ∀ i, i ≠ 13 → i ≠ 15 → i ≠ 7 → a i = m1.2 i := fun i a1 a2 a3 => (f5 i a3).trans (by rw [N3]; exact g3.2 i a1 a2)
  refine ⟨nI q, (P, I, R, W, ((((j2, c2, p), t', fi), (o.1, nI 0), upd ei 4 0), w, pw, rs), K', sv), (m3.1, a), ?_, ?_, ⟨F, ⟨?_, ?_, f3, f4, ?_, ?_⟩, ⟨x7, ?_, ?_, ?_, 0, Nat.zero_le _, ⟨by omega, rfl, z21, fun i hi => by omega, fun f hf => by omega⟩, Or.inl ⟨rfl, rfl, z19, z22⟩⟩, ?_, ?_, ?_⟩, zRX_cg (zRX_mono e4 (by omega) (by omega)) (I3 36 (by decide) (by decide) (by decide)) (I3 12 (by decide) (by decide) (by decide)) (I3 44 (by decide) (by decide) (by decide)) (I3 42 (by decide) (by decide) (by decide)) (A3 34 (by decide) (by decide) (by decide)) (A3 41 (by decide) (by decide) (by decide)) (A3 40 (by decide) (by decide) (by decide))⟩
  · unfold k_En_close
    dsimp only
    rw [e1, Option.bind_some, show k_Ta_cut 1 8 o 0 = some (o.1, nI 0) from ta_cut (c := 0) ho.2.1 (by omega) (by have := ho.1; omega), Option.bind_some, show k_En_close_15 zFu 0 (((j, c, p), t, fi), (o.1, nI 0), upd ei 4 0) = _ from f1, g1, Option.bind_some, Option.bind_some, y4]
  · rw [e2, Option.bind_some, y22, g2]
    exact f2
  · dsimp only
    rw [M3 14 (by omega), f5 13 (by decide), N3]
    exact zRJ_mono g4 (by omega)
  · dsimp only
    rw [M3 16 (by omega), f5 15 (by decide), N3]
    exact g5
  · exact i5.trans (I3 17 (by decide) (by decide) (by decide)).symm
  · exact i6.trans (I3 18 (by decide) (by decide) (by decide)).symm
  · exact x8.trans (I3 26 (by decide) (by decide) (by decide)).symm
  · exact x9.trans (I3 27 (by decide) (by decide) (by decide)).symm
  · exact x10.trans (I3 28 (by decide) (by decide) (by decide)).symm
  · dsimp only
    rw [A3 0 (by decide) (by decide) (by decide)]
    exact h3
  · dsimp only
    rw [I3 38 (by decide) (by decide) (by decide), A3 33 (by decide) (by decide) (by decide)]
    exact h4
  · exact h5.trans (I3 29 (by decide) (by decide) (by decide)).symm
