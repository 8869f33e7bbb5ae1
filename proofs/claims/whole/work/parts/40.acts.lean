theorem zRI_cg {b F : Nat} {j c t : zsT} {fi : Nat → Int32} {m m' : zsM} (h : zRI b F j c t fi m) (h1 : ∀ i, i = 11 ∨ i = 14 ∨ i = 16 ∨ i = 17 ∨ i = 18 → m'.1 i = m.1 i) (h2 : ∀ i, i < 10 ∨ i = 13 ∨ i = 15 → m'.2 i = m.2 i) : zRI b F j c t fi m' := by
  obtain ⟨r1, r2, ⟨r3, r4, r5, r6⟩, r7, r8, r9⟩ := h
  refine ⟨?_, ?_, ⟨r3, r4, (h1 11 (by omega)).trans r5, ?_⟩, ?_, ?_, ?_⟩
  · rw [h1 14 (by omega), h2 13 (by omega)]
    exact r1
  · rw [h1 16 (by omega), h2 15 (by omega)]
    exact r2
  · rw [h2 1 (by omega), h2 2 (by omega), h2 3 (by omega), h2 4 (by omega), h2 5 (by omega), h2 6 (by omega), h2 7 (by omega), h2 8 (by omega), h2 9 (by omega)]
    exact r6
  · rw [h2 0 (by omega)]
    exact r7
  · rw [h1 17 (by omega)]
    exact r8
  · rw [h1 18 (by omega)]
    exact r9
theorem zRI_mono {b b' F : Nat} {j c t : zsT} {fi : Nat → Int32} {m : zsM} (h : zRI b F j c t fi m) (hb : b ≤ b') : zRI b' F j c t fi m := ⟨zRJ_mono h.1 hb, h.2⟩
theorem r_noteI {b F k f v : Nat} {j c t : zsT} {fi : Nat → Int32} {m : zsM} (h : zRI b F j c t fi m) (hb : b < 2 ^ 27) (hk : k < 11) (hf : f < 8) (hv : v < 1000) : ∃ j' m', k_Jo_write j (nI k) (nI f) (nI v) = some j' ∧ k_Mo_notes m (nI k) (nI f) (nI v) = some m' ∧ zRI (b + 1) F j' c t fi m' ∧ zFrJ m m' := by
  obtain ⟨r1, r2, r3, r4, r5, r6⟩ := h
  obtain ⟨j', m', e1, e2, e3, e4⟩ := r_note r1 hb hk hf hv
  refine ⟨j', m', e1, e2, ⟨e3, ?_, zRF_fr (zFrC_j e4) r3, ?_, ?_, ?_⟩, e4⟩
  · rw [e4.1 16 (by decide), e4.2 15 (by decide)]
    exact r2
  · rw [e4.2 0 (by decide)]
    exact r4
  · rw [e4.1 17 (by decide)]
    exact r5
  · rw [e4.1 18 (by decide)]
    exact r6
theorem r_moveTo {b F f v : Nat} {j c t : zsT} {p fi : Nat → Int32} {m : zsM} (x : Int32) (h : zRI b F j c t fi m) (hb : b < 2 ^ 27) (hf : f < F) (hv : v < 100) (hw : m.2 0 v = 0) (hd : ∀ k, k < F → t.1 (k * 13 + 1) ≠ nI v) : ∃ j' t' m', k_Fi_moveTo ((j, c, p), t, fi) (nI f) (nI v) = some ((j', c, p), t', fi) ∧ k_Mo_notes (upd m.1 23 x, va_up m.2 2 (upd (m.2 2) f (nI v))) 7 (nI f) (nI v) = some m' ∧ zRI (b + 1) F j' c t' fi m' ∧ m'.1 23 = x ∧ (∀ i, i ≠ 14 → i ≠ 23 → m'.1 i = m.1 i) ∧ ∀ i, i ≠ 13 → i ≠ 2 → m'.2 i = m.2 i := by
  obtain ⟨r1, r2, r3, r4, r5, r6⟩ := h
  have h1 : zRI b F j c (upd t.1 (f * 13 + 1) (nI v), t.2) fi (upd m.1 23 x, va_up m.2 2 (upd (m.2 2) f (nI v))) := by
    refine ⟨?_, ?_, zRF_cell r3 hf _ (zu_n (by decide)), ?_, ?_, ?_⟩
    · dsimp only
      rw [zu_n (by decide), zup_n (by decide)]
      exact r1
    · dsimp only
      rw [zu_n (by decide), zup_n (by decide)]
      exact r2
    · dsimp only
      rw [zup_n (by decide)]
      exact zFR_cell r4 hf hv hw hd
    · dsimp only
      rw [zu_n (by decide)]
      exact r5
    · dsimp only
      rw [zu_n (by decide)]
      exact r6
  obtain ⟨j', m', e1, e2, e3, e4⟩ := r_noteI (k := 7) (f := f) (v := v) h1 hb (by omega) (by have := r3.1; omega) (by omega)
  refine ⟨j', _, m', ?_, e2, e3, ?_, fun i a1 a2 => ?_, fun i a1 a2 => ?_⟩
  · unfold k_Fi_moveTo
    dsimp only
    rw [show (1 : Int32) = nI 1 from rfl, fi_set r3.2.1 r3.1 hf (by omega), Option.bind_some, show k_Jo_write j 7 (nI f) (nI v) = some j' from e1]
    rfl
  · rw [e4.1 23 (by decide)]
    dsimp only
    exact zu_s
  · rw [e4.1 i a1]
    exact zu_n a2
  · rw [e4.2 i a1]
    exact zup_n a2
theorem r_spend {b F f r v cost : Nat} {j c t : zsT} {p fi : Nat → Int32} {m : zsM} (h : zRI b F j c t fi m) (hb : b < 2 ^ 27) (hf : f < F) (hr3 : r < 3) (hv : t.1 (f * 13 + (7 + r)) = nI v) (hv9 : v < 10) (hvc : cost ≤ v) : ∃ j' t' m', k_Fi_spend ((j, c, p), t, fi) (nI f) (nI r) (nI cost) = some ((j', c, p), t', fi) ∧ (if 0 < nI cost then k_Mo_notes (m.1, va_up m.2 8 (upd (m.2 8) (3 * f + r) (m.2 8 (3 * f + r) - nI cost))) 5 (nI f) (nI (10 * r + cost)) else some (m.1, va_up m.2 8 (upd (m.2 8) (3 * f + r) (m.2 8 (3 * f + r) - nI cost)))) = some m' ∧ zRI (b + 1) F j' c t' fi m' ∧ zFrF m m' := by
  obtain ⟨hj, hc, hr, hR, h3, h4⟩ := h
  have hF := hr.1
  obtain ⟨-, -, -, -, -, -, hA⟩ := hR.1 f hf
  obtain ⟨v', w, a1, a2, a3, a4⟩ := hA r hr3
  have hvv : v' = v := by
    rw [hv] at a3
    exact ((nI_eq (by omega) (by omega)).1 a3).symm
  obtain ⟨-, -, -, -, -, -, -, hM⟩ := hr.2.2.2 f hf
  obtain ⟨b1, b2⟩ := hM r hr3
  rw [b1, hv, pk_sub hvc]
  by_cases h0 : 0 < cost
  · have h1 : zRI b F j c (upd t.1 (f * 13 + (7 + r)) (nI (v - cost)), t.2) fi (m.1, va_up m.2 8 (upd (m.2 8) (3 * f + r) (nI (v - cost)))) := by
      refine ⟨?_, ?_, zRF_amt hr hf hr3 _ rfl, ?_, h3, h4⟩
      · dsimp only
        rw [zup_n (by decide)]
        exact hj
      · dsimp only
        rw [zup_n (by decide)]
        exact hc
      · dsimp only
        rw [zup_n (by decide)]
        exact zFR_amt hR hf hr3 a4 (by omega) a2
    obtain ⟨j', m', e1, e2, e3, e4⟩ := r_noteI (k := 5) (f := f) (v := 10 * r + cost) h1 hb (by omega) (by omega) (by omega)
    refine ⟨j', _, m', ?_, ?_, e3, fun i a1 a2 a3 a4 => e4.1 i a1, fun i a1 a2 a3 a4 => (e4.2 i a1).trans (zup_n a4)⟩
    · unfold k_Fi_spend
      dsimp only
      rw [if_pos (show (0 : Int32) < nI cost from nI_lt (a := 0) h0 (by omega)), z_7, nI_add, fi_get hr.2.1 hF hf (by omega), Option.bind_some, hv, pk_sub hvc, fi_set hr.2.1 hF hf (by omega), Option.bind_some, z_10, pk_mul, nI_add, show k_Jo_write j 5 (nI f) (nI (10 * r + cost)) = some j' from e1]
      rfl
    · rw [if_pos (show (0 : Int32) < nI cost from nI_lt (a := 0) h0 (by omega))]
      exact e2
  · have hc0 : cost = 0 := by omega
    subst hc0
    have hx := zRF_amt (r := r) (x := t.1 (f * 13 + (7 + r))) hr hf hr3 m.1 rfl
    rw [zu_id, hv] at hx
    refine ⟨j, t, _, ?_, if_neg (by decide), ⟨?_, ?_, hx, ?_, h3, h4⟩, fun i a1 a2 a3 a4 => rfl, fun i a1 a2 a3 a4 => zup_n a4⟩
    · unfold k_Fi_spend
      exact if_neg (by decide)
    · dsimp only
      rw [zup_n (by decide)]
      exact zRJ_mono hj (by omega)
    · dsimp only
      rw [zup_n (by decide)]
      exact hc
    · dsimp only
      rw [zup_n (by decide)]
      exact hR
