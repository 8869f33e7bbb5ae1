def zRF (F : Nat) (t : zsT) (m : zsM) : Prop := F ≤ 8 ∧ t.2 = nI F ∧ m.1 11 = nI F ∧ ∀ i, i < F → m.2 1 i = t.1 (i * 13 + 0) ∧ m.2 2 i = t.1 (i * 13 + 1) ∧ m.2 4 i = t.1 (i * 13 + 2) ∧ m.2 3 i = t.1 (i * 13 + 3) ∧ m.2 5 i = t.1 (i * 13 + 4) ∧ m.2 6 i = t.1 (i * 13 + 5) ∧ m.2 7 i = t.1 (i * 13 + 6) ∧ ∀ r, r < 3 → m.2 8 (3 * i + r) = t.1 (i * 13 + (7 + r)) ∧ m.2 9 (3 * i + r) = t.1 (i * 13 + (10 + r))
def zFR (F : Nat) (t : zsT) (wall : Nat → Int32) : Prop := (∀ i, i < F → (∃ v, v < 2 ∧ t.1 (i * 13 + 0) = nI v) ∧ (∃ v, v < 100 ∧ t.1 (i * 13 + 1) = nI v ∧ wall v = 0) ∧ (∃ v w, v ≤ w ∧ 0 < w ∧ w ≤ 99 ∧ t.1 (i * 13 + 2) = nI v ∧ t.1 (i * 13 + 3) = nI w) ∧ (-5 ≤ (t.1 (i * 13 + 4)).toInt ∧ (t.1 (i * 13 + 4)).toInt ≤ 9) ∧ (∃ v, v < 10 ∧ t.1 (i * 13 + 5) = nI v) ∧ (-5 ≤ (t.1 (i * 13 + 6)).toInt ∧ (t.1 (i * 13 + 6)).toInt ≤ 29) ∧ ∀ r, r < 3 → ∃ v w, v ≤ w ∧ w < 10 ∧ t.1 (i * 13 + (7 + r)) = nI v ∧ t.1 (i * 13 + (10 + r)) = nI w) ∧ ∀ i k, i < F → k < F → t.1 (i * 13 + 1) = t.1 (k * 13 + 1) → i = k
def zRI (b F : Nat) (j c t : zsT) (fi : Nat → Int32) (m : zsM) : Prop := zRJ b j (m.1 14) (m.2 13) ∧ zRC F c (m.1 16) (m.2 15) ∧ zRF F t m ∧ zFR F t (m.2 0) ∧ fi 3 = m.1 17 ∧ fi 4 = m.1 18
def zFrF (m m' : zsM) : Prop := (∀ i, i ≠ 14 → i ≠ 16 → i ≠ 17 → i ≠ 18 → m'.1 i = m.1 i) ∧ ∀ i, i ≠ 13 → i ≠ 15 → i ≠ 4 → i ≠ 8 → m'.2 i = m.2 i
theorem zFrF_rfl (m : zsM) : zFrF m m := ⟨fun _ _ _ _ _ => rfl, fun _ _ _ _ _ => rfl⟩
theorem zFrF_tr {m m' m'' : zsM} (h : zFrF m m') (h' : zFrF m' m'') : zFrF m m'' := ⟨fun i a b c d => (h'.1 i a b c d).trans (h.1 i a b c d), fun i a b c d => (h'.2 i a b c d).trans (h.2 i a b c d)⟩
theorem zFrF_c {m m' : zsM} (h : zFrC m m') : zFrF m m' := ⟨fun i a b _ _ => h.1 i a b, fun i a b _ _ => h.2 i a b⟩
theorem zRF_fr {F : Nat} {t : zsT} {m m' : zsM} (h : zFrC m m') (hr : zRF F t m) : zRF F t m' := by
  obtain ⟨h1, h2, h3, h4⟩ := hr
  refine ⟨h1, h2, (h.1 11 (by decide) (by decide)).trans h3, fun i hi => ?_⟩
  rw [h.2 1 (by decide) (by decide), h.2 2 (by decide) (by decide), h.2 3 (by decide) (by decide), h.2 4 (by decide) (by decide), h.2 5 (by decide) (by decide), h.2 6 (by decide) (by decide), h.2 7 (by decide) (by decide), h.2 8 (by decide) (by decide), h.2 9 (by decide) (by decide)]
  exact h4 i hi
theorem zRF_life {F f : Nat} {t : zsT} {m : zsM} {x : Int32} (hr : zRF F t m) (hf : f < F) (n : Nat → Int32) (hn : n 11 = m.1 11) : zRF F (upd t.1 (f * 13 + 2) x, t.2) (n, va_up m.2 4 (upd (m.2 4) f x)) := by
  obtain ⟨h1, h2, h3, h4⟩ := hr
  refine ⟨h1, h2, hn.trans h3, fun i hi => ?_⟩
  obtain ⟨g1, g2, g3, g4, g5, g6, g7, g8⟩ := h4 i hi
  dsimp only
  rw [zup_n (show 1 ≠ 4 by decide), zup_n (show 2 ≠ 4 by decide), zup_s, zup_n (show 3 ≠ 4 by decide), zup_n (show 5 ≠ 4 by decide), zup_n (show 6 ≠ 4 by decide), zup_n (show 7 ≠ 4 by decide), zup_n (show 8 ≠ 4 by decide), zup_n (show 9 ≠ 4 by decide)]
  refine ⟨?_, ?_, ?_, ?_, ?_, ?_, ?_, fun r hr => ⟨?_, ?_⟩⟩
  · rw [zu_n (by omega), g1]
  · rw [zu_n (by omega), g2]
  · by_cases hif : i = f
    · subst hif
      rw [zu_s, zu_s]
    · rw [zu_n hif, zu_n (by omega), g3]
  · rw [zu_n (by omega), g4]
  · rw [zu_n (by omega), g5]
  · rw [zu_n (by omega), g6]
  · rw [zu_n (by omega), g7]
  · rw [zu_n (by omega), (g8 r hr).1]
  · rw [zu_n (by omega), (g8 r hr).2]
theorem zFR_life {F f v w : Nat} {t : zsT} {wall : Nat → Int32} (hr : zFR F t wall) (hf : f < F) (hw : t.1 (f * 13 + 3) = nI w) (hv : v ≤ w) (hw0 : 0 < w) (hw9 : w ≤ 99) : zFR F (upd t.1 (f * 13 + 2) (nI v), t.2) wall := by
  obtain ⟨h1, h2⟩ := hr
  refine ⟨fun i hi => ?_, fun i k hi hk he => ?_⟩
  · obtain ⟨g1, g2, g3, g4, g5, g6, g7⟩ := h1 i hi
    dsimp only
    rw [zu_n (show i * 13 + 0 ≠ f * 13 + 2 by omega), zu_n (show i * 13 + 1 ≠ f * 13 + 2 by omega), zu_n (show i * 13 + 3 ≠ f * 13 + 2 by omega), zu_n (show i * 13 + 4 ≠ f * 13 + 2 by omega), zu_n (show i * 13 + 5 ≠ f * 13 + 2 by omega), zu_n (show i * 13 + 6 ≠ f * 13 + 2 by omega)]
    refine ⟨g1, g2, ?_, g4, g5, g6, fun r hr => ?_⟩
    · by_cases hif : i = f
      · subst hif
        exact ⟨v, w, hv, hw0, hw9, zu_s, hw⟩
      · rw [zu_n (by omega)]
        exact g3
    · rw [zu_n (by omega), zu_n (by omega)]
      exact g7 r hr
  · dsimp only at he
    rw [zu_n (by omega), zu_n (by omega)] at he
    exact h2 i k hi hk he
theorem fi_get {F i q : Nat} {t : zsT} (ht : t.2 = nI F) (hF : F ≤ 8) (hi : i < F) (hq : q < 13) : k_Ta_get 13 104 t (nI i) (nI q) = some (t.1 (i * 13 + q)) := ta_get (w := 13) ht hi hq (by omega) (by omega)
theorem fi_set {F i q : Nat} {t : zsT} {v : Int32} (ht : t.2 = nI F) (hF : F ≤ 8) (hi : i < F) (hq : q < 13) : k_Ta_set 13 104 t (nI i) (nI q) v = some (upd t.1 (i * 13 + q) v, t.2) := ta_set (w := 13) ht hi hq (by omega) (by omega)
