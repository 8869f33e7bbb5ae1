theorem zRE_cg {F F' r r' : Nat} {o : zsT} {ei : Nat → Int32} {m m' : zsM} (h : zRE F r o ei m) (hF : F ≤ F') (hr : r ≤ r') (h1 : ∀ i, 19 ≤ i → i ≤ 28 → m'.1 i = m.1 i) (h2 : m'.2 10 = m.2 10) : zRE F' r' o ei m' := by
  obtain ⟨e1, e2, e3, e4, M, e5, e6, e7⟩ := zRE_mono h hr
  refine ⟨e1, ?_, ?_, ?_, M, by omega, zRO_cg e6 (h1 21 (by omega) (by omega)) (fun k _ => by rw [h2]), ?_⟩
  · rw [h1 26 (by omega) (by omega)]
    exact e2
  · rw [h1 27 (by omega) (by omega)]
    exact e3
  · rw [h1 28 (by omega) (by omega)]
    exact e4
  · rw [h1 19 (by omega) (by omega), h1 20 (by omega) (by omega), h1 22 (by omega) (by omega), h1 23 (by omega) (by omega), h1 24 (by omega) (by omega)]
    exact e7
theorem z_rng {x : Int32} {lo hi : Nat} (hh : hi < 2 ^ 30) (h0 : 0 < lo ∨ ¬ x < 0) (h1 : ¬ x < nI lo) (h2 : ¬ nI hi < x) (hl : lo < 2 ^ 30) : ∃ i, lo ≤ i ∧ i ≤ hi ∧ x = nI i := by
  have hx : ¬ x < 0 := by
    rcases h0 with h0 | h0
    · intro e
      apply h1
      rw [Int32.lt_iff_toInt_lt] at e ⊢
      rw [nI_toInt (by omega)]
      have : (0 : Int32).toInt = 0 := rfl
      omega
    · exact h0
  obtain ⟨i, hi', rfl⟩ := nI_of hx
  refine ⟨i, ?_, ?_, rfl⟩
  · by_cases g : lo ≤ i
    · exact g
    · exact absurd (nI_lt (by omega) (by omega)) h1
  · by_cases g : i ≤ hi
    · exact g
    · exact absurd (nI_lt (by omega) (by omega)) h2
theorem op_add : OP_add zRR := by
  intro k x m a1 a2 a3 a4 a5 hk h
  have hm := zRR_mono h
  obtain ⟨P, I, R, W, ⟨⟨⟨⟨j, c, p⟩, t, fi⟩, o, ei⟩, w, pw, rs⟩, K, sv⟩ := x
  have hrf := zRR_refuse (W' := W) (m1 := m) 5 h rfl (fun _ _ _ => rfl)
  obtain ⟨⟨F, ⟨-, -, hr, -⟩, -, hw, -⟩, -⟩ := id h
  dsimp only at hr hw
  have hF := hr.1
  unfold k_EL_add k_Mo_add k_Mo_isBetween k_EL_add_61
  dsimp only
  rw [if_pos (show (0 : Int32) = 0 from rfl), if_neg (show ¬ (1 : Int32) = 0 by decide)]
  by_cases s0 : a1 < 0
  · rw [if_pos s0, if_pos s0]
    exact ⟨_, _, _, rfl, rfl, hm⟩
  rw [if_neg s0, if_neg s0]
  by_cases s1 : 1 < a1
  · rw [if_pos s1, if_pos s1]
    exact ⟨_, _, _, rfl, rfl, hm⟩
  rw [if_neg s1, if_neg s1, Option.bind_some, if_neg (show ¬ (1 : Int32) = 0 by decide)]
  obtain ⟨a, -, ha, rfl⟩ := z_rng (lo := 0) (hi := 1) (by omega) (Or.inr s0) s0 s1 (by omega)
  rcases z_cellc a2 with ⟨v, c1, rfl, c3, c4⟩ | ⟨c3, c4⟩
  rotate_left
  · rw [c3, c4, Option.bind_some, Option.bind_some, if_pos rfl, if_pos rfl]
    exact ⟨_, _, _, rfl, rfl, hm⟩
  rw [c3, c4, Option.bind_some, Option.bind_some, if_neg (show ¬ (1 : Int32) = 0 by decide), if_neg (show ¬ (1 : Int32) = 0 by decide)]
  by_cases s2 : a3 < 1
  · rw [if_pos s2, if_pos s2]
    exact ⟨_, _, _, rfl, rfl, hm⟩
  rw [if_neg s2, if_neg s2]
  by_cases s3 : 99 < a3
  · rw [if_pos s3, if_pos s3]
    exact ⟨_, _, _, rfl, rfl, hm⟩
  rw [if_neg s3, if_neg s3, Option.bind_some, if_neg (show ¬ (1 : Int32) = 0 by decide)]
  obtain ⟨lf, l0, l9, rfl⟩ := z_rng (lo := 1) (hi := 99) (by omega) (Or.inl (by omega)) s2 s3 (by omega)
  by_cases s4 : a4 < -5
  · rw [if_pos s4, if_pos s4]
    exact ⟨_, _, _, rfl, rfl, hm⟩
  rw [if_neg s4, if_neg s4]
  by_cases s5 : 9 < a4
  · rw [if_pos s5, if_pos s5]
    exact ⟨_, _, _, rfl, rfl, hm⟩
  rw [if_neg s5, if_neg s5, Option.bind_some, if_neg (show ¬ (1 : Int32) = 0 by decide)]
  by_cases s6 : a5 < 1
  · rw [if_pos s6, if_pos s6]
    exact ⟨_, _, _, rfl, rfl, hm⟩
  rw [if_neg s6, if_neg s6]
  by_cases s7 : 9 < a5
  · rw [if_pos s7, if_pos s7]
    exact ⟨_, _, _, rfl, rfl, hm⟩
  rw [if_neg s7, if_neg s7, Option.bind_some, if_neg (show ¬ (1 : Int32) = 0 by decide)]
  obtain ⟨sp, p0, p9, rfl⟩ := z_rng (lo := 1) (hi := 9) (by omega) (Or.inl (by omega)) s6 s7 (by omega)
  rcases r_free (c3 := (j, c, p)) (o := o) (pw := pw) (fi := fi) (ei := ei) (rs := rs) hw hr c1 with ⟨f1, f2, f3, f4⟩ | ⟨f1, f2⟩
  rotate_left
  · rw [f1, f2, Option.bind_some, Option.bind_some, if_pos rfl, if_pos rfl]
    exact ⟨_, _, _, rfl, rfl, hrf⟩
  rw [f1, f2, Option.bind_some, Option.bind_some, if_neg (show ¬ (1 : Int32) = 0 by decide), if_neg (show ¬ (1 : Int32) = 0 by decide)]
  unfold k_Fi_size k_Ta_used
  dsimp only
  rw [hr.2.1, hr.2.2.1, Option.bind_some, Option.bind_some]
  by_cases s8 : F < 8
  rotate_left
  · rw [if_neg (show ¬ nI F < 8 from nI_nlt (b := 8) (by omega) (by omega)), if_pos (show nI F = (8 : Int32) from by rw [show F = 8 by omega]; rfl)]
    exact ⟨_, _, _, rfl, rfl, hm⟩
  rw [if_pos (show nI F < 8 from nI_lt (b := 8) s8 (by omega)), if_neg (show ¬ nI F = (8 : Int32) from fun e => by have := (nI_eq (b := 8) (by omega) (by omega)).1 e; omega)]
  obtain ⟨K', m1, e1, e2, e3, e4, e5, e6⟩ := r_keepX (by omega) h.1 h.2
  dsimp only at e1 e3 e4
  obtain ⟨F', h1, h2, h3, h4, h5⟩ := e3
  dsimp only at h1 h2 h3 h4 h5
  have hFF : F' = F := by
    have := h1.2.2.1.2.1.symm.trans hr.2.1
    exact (nI_eq (by have := h1.2.2.1.1; omega) (by omega)).1 this
  subst hFF
  have hb : -5 ≤ a4.toInt ∧ a4.toInt ≤ 9 := by
    rw [Int32.lt_iff_toInt_lt] at s4 s5
    have q1 : (-5 : Int32).toInt = -5 := rfl
    have q2 : (9 : Int32).toInt = 9 := rfl
    omega
  obtain ⟨j', t', m2, g1, g2, g3, g4, g5⟩ := r_join (p := p) h1 (by omega) s8 (show a < 2 by omega) c1 (show 0 < lf by omega) l9 hb.1 hb.2 (show sp < 10 by omega) (by rw [e6 0 (by decide)]; exact f3) f4
  have hz : ¬ zOut (nI F') 8 := zo_in s8 (by omega)
  rw [e1, e2, Option.bind_some, Option.bind_some, g1, Option.bind_some]
  simp only [h1.2.2.1.2.2.1, if_neg hz, nI_clamp (show F' < 2 ^ 31 by omega)]
  refine ⟨_, _, m2, rfl, g2, ⟨F' + 1, zRI_mono g3 (by omega), zRE_cg h2 (by omega) (by omega) (fun i q1 q2 => g4 i (by omega) (by omega)) (g5 10 (by decide) (by omega)), ?_, ?_, ?_⟩, ?_⟩
  · dsimp only
    rw [g5 0 (by decide) (by omega)]
    exact h3
  · dsimp only
    rw [g4 38 (by decide) (by decide), g5 33 (by decide) (by omega)]
    exact h4
  · exact h5.trans (g4 29 (by decide) (by decide)).symm
  · exact zRX_cg (zRX_mono e4 (by omega) (by omega)) (g4 36 (by decide) (by decide)) (g4 12 (by decide) (by decide)) (g4 44 (by decide) (by decide)) (g4 42 (by decide) (by decide)) (g5 34 (by decide) (by omega)) (g5 41 (by decide) (by omega)) (g5 40 (by decide) (by omega))
