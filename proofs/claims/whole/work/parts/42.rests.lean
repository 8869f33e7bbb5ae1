theorem r_restLong {b F f : Nat} {j c t : zsT} {p fi : Nat → Int32} {m : zsM} (h : zRI b F j c t fi m) (hb : b + 2000 < 2 ^ 27) (hf : f < F) : ∃ v j' t' fi' m', k_Fi_restLong ((j, c, p), t, fi) (nI f) = some (v, ((j', c, p), t', fi')) ∧ (∀ fu s, k_Mo_rest_57 1 (fu + 1) s (nI f) m = k_Mo_rest_57 1 fu (s + v) (nI (f + 1)) m') ∧ zRI (b + 4) F j' c t' fi' m' ∧ zFrF m m' := by
  have hF := h.2.2.1.1
  obtain ⟨-, -, ⟨v0, w0, g1, g2, g3, g4, g5⟩, -⟩ := h.2.2.2.1.1 f hf
  have hr := h.2.2.1
  obtain ⟨-, -, hl, hl3, -⟩ := hr.2.2.2 f hf
  rw [g5] at hl3
  obtain ⟨v, j1, t1, fi1, m1, e1, e2, h1, f1⟩ := r_heal (p := p) h (by omega) hf (show w0 < 2 ^ 31 by omega)
  obtain ⟨j2, t2, m2, e3, e4, h2, f2⟩ := r_refill (p := p) (r := 0) h1 (by omega) hf (by omega)
  obtain ⟨j3, t3, m3, e5, e6, h3, f3⟩ := r_refill (p := p) (r := 1) h2 (by omega) hf (by omega)
  obtain ⟨j4, t4, m4, e7, e8, h4, f4⟩ := r_refill (p := p) (r := 2) h3 (by omega) hf (by omega)
  obtain ⟨g, hg⟩ : ∃ g, zFu = g + 4 := ⟨zFu - 4, by have := zFu_gt; omega⟩
  refine ⟨v, j4, t4, fi1, m4, ?_, fun fu s => ?_, zRI_mono h4 (by omega), zFrF_tr f1 (zFrF_tr f2 (zFrF_tr f3 f4))⟩
  · unfold k_Fi_restLong
    dsimp only
    rw [z_3, fi_get hr.2.1 hF hf (by omega), Option.bind_some, g5, e1, Option.bind_some, hg, z_0]
    simp only [k_Fi_restLong_17]
    rw [if_pos (by decide), e3, Option.bind_some, show nI 0 + (1 : Int32) = nI 1 from rfl, if_pos (by decide), e5, Option.bind_some, show nI 1 + (1 : Int32) = nI 2 from rfl, if_pos (by decide), e7, Option.bind_some, show nI 2 + (1 : Int32) = nI 3 from rfl, if_neg (by decide)]
  · simp only [k_Mo_rest_57]
    rw [hr.2.2.1, if_pos (nI_lt hf (by omega)), if_pos trivial, if_neg (zo_in (by omega) (by omega)), nI_clamp (by omega), hl3, e2, Option.bind_some, hg, z_0]
    simp only [k_Mo_rest_116, k_Mo_rest_128, ↓reduceIte]
    rw [if_pos (by decide), e4, Option.bind_some, show nI 0 + (1 : Int32) = nI 1 from rfl, if_pos (by decide), e6, Option.bind_some, show nI 1 + (1 : Int32) = nI 2 from rfl, if_pos (by decide), e8, Option.bind_some, show nI 2 + (1 : Int32) = nI 3 from rfl, if_neg (by decide), nI_1]
theorem r_restShort {b F f : Nat} {j c t : zsT} {p fi : Nat → Int32} {m : zsM} (h : zRI b F j c t fi m) (hb : b + 2000 < 2 ^ 27) (hf : f < F) : ∃ v j' t' fi' m', k_Fi_restShort ((j, c, p), t, fi) (nI f) = some (v, ((j', c, p), t', fi')) ∧ (∀ fu s, k_Mo_rest_57 0 (fu + 1) s (nI f) m = k_Mo_rest_57 0 fu (s + v) (nI (f + 1)) m') ∧ zRI (b + 4) F j' c t' fi' m' ∧ zFrF m m' := by
  have hF := h.2.2.1.1
  obtain ⟨-, -, ⟨v0, w0, g1, g2, g3, g4, g5⟩, -⟩ := h.2.2.2.1.1 f hf
  have hr := h.2.2.1
  obtain ⟨-, -, hl, hl3, -⟩ := hr.2.2.2 f hf
  rw [g5] at hl3
  obtain ⟨g, hg⟩ : ∃ g, zFu = g + 4 := ⟨zFu - 4, by have := zFu_gt; omega⟩
  by_cases hd : m.2 4 f = 0
  · obtain ⟨j2, t2, m2, e3, e4, h2, f2⟩ := r_refill (p := p) (r := 0) h (by omega) hf (by omega)
    refine ⟨0, j2, t2, fi, m2, ?_, fun fu s => ?_, zRI_mono h2 (by omega), f2⟩
    · unfold k_Fi_restShort
      rw [fi_isDown hr hf, Option.bind_some, if_pos hd, if_neg (by decide), z_0, e3, Option.bind_some]
    · simp only [k_Mo_rest_57]
      rw [hr.2.2.1, if_pos (nI_lt hf (by omega)), if_neg (by decide), mo_isDown (by omega), Option.bind_some, if_pos hd, if_neg (by decide), hg, z_0]
      simp only [k_Mo_rest_116, k_Mo_rest_128]
      rw [if_neg (by decide), if_pos (by decide), e4, Option.bind_some, if_neg (by decide), show nI 0 + (1 : Int32) = nI 1 from rfl, if_neg (by decide), nI_1, zadd0]
  · obtain ⟨v, j1, t1, fi1, m1, e1, e2, h1, f1⟩ := r_heal (p := p) (n := (w0 + 1) / 2) h (by omega) hf (by omega)
    obtain ⟨j2, t2, m2, e3, e4, h2, f2⟩ := r_refill (p := p) (r := 0) h1 (by omega) hf (by omega)
    have hd2 : (nI w0 + 1) / (2 : Int32) = nI ((w0 + 1) / 2) := by
      rw [nI_1, z_2, pk_div (by omega) (by omega) (by omega)]
    refine ⟨v, j2, t2, fi1, m2, ?_, fun fu s => ?_, zRI_mono h2 (by omega), zFrF_tr f1 f2⟩
    · unfold k_Fi_restShort
      rw [fi_isDown hr hf, Option.bind_some, if_neg hd, if_pos rfl]
      dsimp only
      rw [z_3, fi_get hr.2.1 hF hf (by omega), Option.bind_some, g5, hd2, e1, Option.bind_some, z_0, e3, Option.bind_some]
    · simp only [k_Mo_rest_57]
      rw [hr.2.2.1, if_pos (nI_lt hf (by omega)), if_neg (by decide), mo_isDown (by omega), Option.bind_some, if_neg hd, if_pos rfl, if_neg (zo_in (by omega) (by omega)), nI_clamp (by omega), hl3, hd2, e2, Option.bind_some, hg, z_0]
      simp only [k_Mo_rest_116, k_Mo_rest_128]
      rw [if_neg (by decide), if_pos (by decide), e4, Option.bind_some, if_neg (by decide), show nI 0 + (1 : Int32) = nI 1 from rfl, if_neg (by decide), nI_1]
theorem r_rest_lp {F l : Nat} {p ei : Nat → Int32} {P : zsP} {I R : Int32} {W : zsW} {o w pw : zsT} {rs : Int32} {K : zsK} {sv : zsS} (hl : l = 0 ∨ l = 1) : ∀ (d i b fu fu' : Nat) (s : Int32) (j c t : zsT) (fi : Nat → Int32) (m : zsM), i + d = F → d < fu → d < fu' → zRI b F j c t fi m → b + 4 * d + 2500 < 2 ^ 27 → ∃ v j' c' t' fi' m', k_EL_rest_78 (nI l) fu s (nI i) (P, I, R, W, ((((j, c, p), t, fi), o, ei), w, pw, rs), K, sv) = some (v, (P, I, R, W, ((((j', c', p), t', fi'), o, ei), w, pw, rs), K, sv)) ∧ k_Mo_rest_57 (nI l) fu' s (nI i) m = some (v, m') ∧ zRI (b + 4 * d + 384) F j' c' t' fi' m' ∧ zFrF m m' := by
  intro d
  induction d with
  | zero =>
    intro i b fu fu' s j c t fi m hi h1 h2 h hb
    obtain ⟨fu, rfl, -⟩ := z_fuS h1
    obtain ⟨fu', rfl, -⟩ := z_fuS h2
    obtain ⟨r1, r2, r3, r4, r5, r6⟩ := h
    have hiF : ¬ nI i < nI F := nI_nlt (by omega) (by have := r3.1; omega)
    rcases hl with rfl | rfl
    · obtain ⟨L, ht, hm, hg⟩ := r2
      refine ⟨s, j, c, t, fi, m, ?_, ?_, ⟨zRJ_mono r1 (by omega), ⟨L, ht, hm, hg⟩, r3, r4, r5, r6⟩, zFrF_rfl m⟩
      · simp only [k_EL_rest_78, k_Fi_size, k_Ta_used, Option.bind_some, r3.2.1, if_neg hiF]
        rw [if_neg (by decide)]
      · simp only [k_Mo_rest_57, r3.2.2.1, if_neg hiF]
        exact r_endNone s hg.2.1 hm.1 L.length 0 zFu (by omega) (z_fu (by have := hg.2.1; omega))
    · obtain ⟨j', c', m', e1, e2, f1, r7, r8⟩ := r_endWith (p := p) s r1 (by omega) r2
      refine ⟨s, j', c', t, fi, m', ?_, ?_, ⟨?_, r8, zRF_fr f1 r3, ?_, ?_, ?_⟩, zFrF_c f1⟩
      · simp only [k_EL_rest_78, k_Fi_size, k_Ta_used, Option.bind_some, r3.2.1, if_neg hiF]
        rw [if_pos (by decide), e1, Option.bind_some]
      · simp only [k_Mo_rest_57, r3.2.2.1, if_neg hiF]
        exact e2
      · exact zRJ_mono r7 (by omega)
      · rw [f1.2 0 (by decide) (by decide)]
        exact r4
      · rw [f1.1 17 (by decide) (by decide)]
        exact r5
      · rw [f1.1 18 (by decide) (by decide)]
        exact r6
  | succ d ih =>
    intro i b fu fu' s j c t fi m hi h1 h2 h hb
    obtain ⟨fu, rfl, h1'⟩ := z_fuS h1
    obtain ⟨fu', rfl, h2'⟩ := z_fuS h2
    have hiF : nI i < nI F := nI_lt (by omega) (by have := h.2.2.1.1; omega)
    have hsz := h.2.2.1.2.1
    rcases hl with rfl | rfl
    · obtain ⟨v, j1, t1, fi1, m1, e1, e2, h3, f1⟩ := r_restShort (p := p) h (by omega) (show i < F by omega)
      obtain ⟨v', j', c', t', fi', m', e3, e4, h4, f2⟩ := ih (i + 1) (b + 4) fu fu' (s + v) j1 c t1 fi1 m1 (by omega) (by omega) (by omega) h3 (by omega)
      refine ⟨v', j', c', t', fi', m', ?_, ?_, zRI_mono h4 (by omega), zFrF_tr f1 f2⟩
      · rw [← e3]
        simp only [k_EL_rest_78, k_Fi_size, k_Ta_used, Option.bind_some, hsz, if_pos hiF]
        rw [if_neg (by decide), e1, Option.bind_some, nI_1]
      · exact (e2 fu' s).trans e4
    · obtain ⟨v, j1, t1, fi1, m1, e1, e2, h3, f1⟩ := r_restLong (p := p) h (by omega) (show i < F by omega)
      obtain ⟨v', j', c', t', fi', m', e3, e4, h4, f2⟩ := ih (i + 1) (b + 4) fu fu' (s + v) j1 c t1 fi1 m1 (by omega) (by omega) (by omega) h3 (by omega)
      refine ⟨v', j', c', t', fi', m', ?_, ?_, zRI_mono h4 (by omega), zFrF_tr f1 f2⟩
      · rw [← e3]
        simp only [k_EL_rest_78, k_Fi_size, k_Ta_used, Option.bind_some, hsz, if_pos hiF]
        rw [if_pos (by decide), e1, Option.bind_some, nI_1]
      · exact (e2 fu' s).trans e4
