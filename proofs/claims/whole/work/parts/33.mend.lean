theorem r_heal {b F f n : Nat} {j c t : zsT} {p fi : Nat → Int32} {m : zsM} (h : zRI b F j c t fi m) (hb : b + 1000 < 2 ^ 27) (hf : f < F) (hn : n < 2 ^ 31) : ∃ v j' t' fi' m', k_Fi_mend ((j, c, p), t, fi) (nI f) (nI n) = some (v, ((j', c, p), t', fi')) ∧ k_Mo_mends m (nI f) (nI n) = some (v, m') ∧ zRI (b + 1) F j' c t' fi' m' ∧ zFrF m m' := by
  obtain ⟨hj, hc, hr, hR, h3, h4⟩ := h
  have hF := hr.1
  obtain ⟨-, -, ⟨v0, w0, g1, g2, g3, g4, g5⟩, -⟩ := hR.1 f hf
  obtain ⟨-, -, hl, hl3, -⟩ := hr.2.2.2 f hf
  rw [g4] at hl
  rw [g5] at hl3
  have G := fun q hq => fi_get (q := q) hr.2.1 hF hf hq
  have hz8 : ¬ zOut (nI f) 8 := zo_in (by omega) (by omega)
  have hcl : (nI f).toNatClampNeg = f := nI_clamp (by omega)
  obtain ⟨w, hw⟩ : ∃ w, w = min n (w0 - v0) := ⟨_, rfl⟩
  have hcls : k_Fi_mend ((j, c, p), t, fi) (nI f) (nI n) = if 0 < w then (k_Jo_write j 2 (nI f) (nI w)).bind fun o5 => some (nI w, ((o5, c, p), (upd t.1 (f * 13 + 2) (nI (v0 + w)), t.2), upd fi 4 (fi 4 + nI w))) else some (0, ((j, c, p), t, fi)) := by
    unfold k_Fi_mend
    dsimp only
    rw [z_2, G 2 (by omega), Option.bind_some, z_3, G 3 (by omega), Option.bind_some, g4, g5, pk_sub (by omega), zmin_nI hn (by omega), ← hw, nI_add, fi_set hr.2.1 hF hf (by omega)]
    by_cases h0 : 0 < w
    · rw [if_pos (show (0 : Int32) < nI w from nI_lt (a := 0) h0 (by omega)), if_pos h0, Option.bind_some]
    · rw [if_neg (show ¬ (0 : Int32) < nI w from nI_nlt (a := 0) (by omega) (by omega)), if_neg h0]
  have hmo : k_Mo_mends m (nI f) (nI n) = k_Mo_mends_34 (nI f) (nI n) (nI w) m := by
    simp only [k_Mo_mends, if_neg hz8, hcl, hl, hl3, pk_sub (show v0 ≤ w0 by omega)]
    by_cases hx : n < w0 - v0
    · rw [if_pos (nI_lt hx (by omega)), hw, Nat.min_eq_left (by omega)]
    · rw [if_neg (nI_nlt (by omega) hn), hw, Nat.min_eq_right (by omega)]
  by_cases h0 : 0 < w
  · rw [if_pos h0] at hcls
    have hj1 : zRJ b j (upd m.1 18 (m.1 18 + nI w) 14) (va_up m.2 4 (upd (m.2 4) f (nI (v0 + w))) 13) := by
      rw [zu_n (by decide), zup_n (by decide)]
      exact hj
    obtain ⟨j1, m2, e1, e2, hj2, f1⟩ := r_note (k := 2) (f := f) (v := w) (m := (upd m.1 18 (m.1 18 + nI w), va_up m.2 4 (upd (m.2 4) f (nI (v0 + w))))) hj1 (by omega) (by omega) (by omega) (by omega)
    have f2 := zFrC_j f1
    have e3 : k_Mo_mends_34 (nI f) (nI n) (nI w) m = some (nI w, m2) := by
      simp only [k_Mo_mends_34, if_neg (nI_ne0 h0 (show w < 2 ^ 31 by omega)), if_neg hz8, hcl, hl, nI_add]
      rw [z_2, e2, Option.bind_some]
    rw [show k_Jo_write j 2 (nI f) (nI w) = some j1 from e1, Option.bind_some] at hcls
    refine ⟨_, _, _, _, m2, hcls, hmo.trans e3, ⟨hj2, ?_, zRF_fr f2 (zRF_life hr hf _ (zu_n (by decide))), ?_, ?_, ?_⟩, fun i a1 a2 a3 a4 => ?_, fun i a1 a2 a3 a4 => ?_⟩
    · rw [f1.1 16 (by decide), f1.2 15 (by decide)]
      dsimp only
      rw [zu_n (by decide), zup_n (by decide)]
      exact hc
    · rw [f1.2 0 (by decide)]
      dsimp only
      rw [zup_n (by decide)]
      exact zFR_life hR hf g5 (by omega) g2 g3
    · rw [zu_n (by decide), f1.1 17 (by decide), h3]
      dsimp only
      rw [zu_n (by decide)]
    · rw [zu_s, f1.1 18 (by decide), h4]
      dsimp only
      rw [zu_s]
    · rw [f1.1 i a1]
      exact zu_n a4
    · rw [f1.2 i a1]
      exact zup_n a3
  · rw [if_neg h0] at hcls
    refine ⟨_, _, _, _, m, hcls, ?_, ⟨zRJ_mono hj (by omega), hc, hr, hR, h3, h4⟩, zFrF_rfl m⟩
    rw [hmo, show w = 0 by omega]
    simp only [k_Mo_mends_34, nI_0, ↓reduceIte]
theorem zRF_amt {F f r : Nat} {t : zsT} {m : zsM} {x : Int32} (hr : zRF F t m) (hf : f < F) (h3 : r < 3) (n : Nat → Int32) (hn : n 11 = m.1 11) : zRF F (upd t.1 (f * 13 + (7 + r)) x, t.2) (n, va_up m.2 8 (upd (m.2 8) (3 * f + r) x)) := by
  obtain ⟨h1, h2, h4, h5⟩ := hr
  refine ⟨h1, h2, hn.trans h4, fun i hi => ?_⟩
  obtain ⟨g1, g2, g3, g4, g5, g6, g7, g8⟩ := h5 i hi
  dsimp only
  rw [zup_n (show 1 ≠ 8 by decide), zup_n (show 2 ≠ 8 by decide), zup_n (show 4 ≠ 8 by decide), zup_n (show 3 ≠ 8 by decide), zup_n (show 5 ≠ 8 by decide), zup_n (show 6 ≠ 8 by decide), zup_n (show 7 ≠ 8 by decide), zup_s, zup_n (show 9 ≠ 8 by decide)]
  refine ⟨?_, ?_, ?_, ?_, ?_, ?_, ?_, fun q hq => ⟨?_, ?_⟩⟩
  · rw [zu_n (by omega), g1]
  · rw [zu_n (by omega), g2]
  · rw [zu_n (by omega), g3]
  · rw [zu_n (by omega), g4]
  · rw [zu_n (by omega), g5]
  · rw [zu_n (by omega), g6]
  · rw [zu_n (by omega), g7]
  · by_cases hif : i = f ∧ q = r
    · obtain ⟨rfl, rfl⟩ := hif
      rw [zu_s, zu_s]
    · rw [zu_n (by omega), zu_n (by omega), (g8 q hq).1]
  · rw [zu_n (by omega), (g8 q hq).2]
theorem zFR_amt {F f r v w : Nat} {t : zsT} {wall : Nat → Int32} (hr : zFR F t wall) (hf : f < F) (h3 : r < 3) (hw : t.1 (f * 13 + (10 + r)) = nI w) (hv : v ≤ w) (hw9 : w < 10) : zFR F (upd t.1 (f * 13 + (7 + r)) (nI v), t.2) wall := by
  obtain ⟨h1, h2⟩ := hr
  refine ⟨fun i hi => ?_, fun i k hi hk he => ?_⟩
  · obtain ⟨g1, g2, g3, g4, g5, g6, g7⟩ := h1 i hi
    dsimp only
    rw [zu_n (show i * 13 + 0 ≠ f * 13 + (7 + r) by omega), zu_n (show i * 13 + 1 ≠ f * 13 + (7 + r) by omega), zu_n (show i * 13 + 2 ≠ f * 13 + (7 + r) by omega), zu_n (show i * 13 + 3 ≠ f * 13 + (7 + r) by omega), zu_n (show i * 13 + 4 ≠ f * 13 + (7 + r) by omega), zu_n (show i * 13 + 5 ≠ f * 13 + (7 + r) by omega), zu_n (show i * 13 + 6 ≠ f * 13 + (7 + r) by omega)]
    refine ⟨g1, g2, g3, g4, g5, g6, fun q hq => ?_⟩
    by_cases hif : i = f ∧ q = r
    · obtain ⟨rfl, rfl⟩ := hif
      exact ⟨v, w, hv, hw9, zu_s, (zu_n (by omega)).trans hw⟩
    · rw [zu_n (show i * 13 + (7 + q) ≠ f * 13 + (7 + r) by omega), zu_n (show i * 13 + (10 + q) ≠ f * 13 + (7 + r) by omega)]
      exact g7 q hq
  · dsimp only at he
    rw [zu_n (by omega), zu_n (by omega)] at he
    exact h2 i k hi hk he
