theorem zRF_cell {F f : Nat} {t : zsT} {m : zsM} {x : Int32} (hr : zRF F t m) (hf : f < F) (n : Nat → Int32) (hn : n 11 = m.1 11) : zRF F (upd t.1 (f * 13 + 1) x, t.2) (n, va_up m.2 2 (upd (m.2 2) f x)) := by
  obtain ⟨h1, h2, h3, h4⟩ := hr
  refine ⟨h1, h2, hn.trans h3, fun i hi => ?_⟩
  obtain ⟨g1, g2, g3, g4, g5, g6, g7, g8⟩ := h4 i hi
  dsimp only
  rw [zup_n (show 1 ≠ 2 by decide), zup_s, zup_n (show 4 ≠ 2 by decide), zup_n (show 3 ≠ 2 by decide), zup_n (show 5 ≠ 2 by decide), zup_n (show 6 ≠ 2 by decide), zup_n (show 7 ≠ 2 by decide), zup_n (show 8 ≠ 2 by decide), zup_n (show 9 ≠ 2 by decide)]
  refine ⟨?_, ?_, ?_, ?_, ?_, ?_, ?_, fun r hr => ⟨?_, ?_⟩⟩
  · rw [zu_n (by omega), g1]
  · by_cases hif : i = f
    · subst hif
      rw [zu_s, zu_s]
    · rw [zu_n hif, zu_n (by omega), g2]
  · rw [zu_n (by omega), g3]
  · rw [zu_n (by omega), g4]
  · rw [zu_n (by omega), g5]
  · rw [zu_n (by omega), g6]
  · rw [zu_n (by omega), g7]
  · rw [zu_n (by omega), (g8 r hr).1]
  · rw [zu_n (by omega), (g8 r hr).2]
theorem zFR_cell {F f v : Nat} {t : zsT} {wall : Nat → Int32} (hr : zFR F t wall) (hf : f < F) (hv : v < 100) (hw : wall v = 0) (hd : ∀ k, k < F → t.1 (k * 13 + 1) ≠ nI v) : zFR F (upd t.1 (f * 13 + 1) (nI v), t.2) wall := by
  obtain ⟨h1, h2⟩ := hr
  refine ⟨fun i hi => ?_, fun i k hi hk he => ?_⟩
  · obtain ⟨g1, g2, g3, g4, g5, g6, g7⟩ := h1 i hi
    dsimp only
    rw [zu_n (show i * 13 + 0 ≠ f * 13 + 1 by omega), zu_n (show i * 13 + 2 ≠ f * 13 + 1 by omega), zu_n (show i * 13 + 3 ≠ f * 13 + 1 by omega), zu_n (show i * 13 + 4 ≠ f * 13 + 1 by omega), zu_n (show i * 13 + 5 ≠ f * 13 + 1 by omega), zu_n (show i * 13 + 6 ≠ f * 13 + 1 by omega)]
    refine ⟨g1, ?_, g3, g4, g5, g6, fun r hr => ?_⟩
    · by_cases hif : i = f
      · subst hif
        exact ⟨v, hv, zu_s, hw⟩
      · rw [zu_n (by omega)]
        exact g2
    · rw [zu_n (by omega), zu_n (by omega)]
      exact g7 r hr
  · dsimp only at he
    by_cases hif : i = f
    · by_cases hkf : k = f
      · omega
      · rw [hif, zu_s, zu_n (by omega)] at he
        exact absurd he.symm (hd k hk)
    · by_cases hkf : k = f
      · rw [hkf, zu_s, zu_n (by omega)] at he
        exact absurd he (hd i hi)
      · rw [zu_n (by omega), zu_n (by omega)] at he
        exact h2 i k hi hk he
