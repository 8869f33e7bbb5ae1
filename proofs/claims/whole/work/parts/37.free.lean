def zRW (w : zsT) (wall : Nat → Int32) : Prop := w.2 = nI 100 ∧ ∀ i, i < 100 → w.1 i = wall i ∧ (wall i = nI 0 ∨ wall i = nI 1)
theorem wl_get {i : Nat} {w : zsT} {wall : Nat → Int32} (h : zRW w wall) (hi : i < 100) : k_Ta_get 1 100 w (nI i) (nI 0) = some (wall i) := by
  have g := ta_get (w := 1) (n := 100) (c := 0) h.1 hi (by omega) (by omega) (by omega)
  rw [Nat.mul_one, Nat.add_zero, (h.2 i hi).1] at g
  exact g
theorem r_free {F i : Nat} {c3 : zsC} {t o w pw : zsT} {fi ei : Nat → Int32} {rs : Int32} {m : zsM} (hw : zRW w (m.2 0)) (h : zRF F t m) (hi : i < 100) : (k_St_isFree (((c3, t, fi), o, ei), w, pw, rs) (nI i) = some 1 ∧ k_Mo_isFree m (nI i) = some 1 ∧ m.2 0 i = 0 ∧ ∀ k, k < F → t.1 (k * 13 + 1) ≠ nI i) ∨ (k_St_isFree (((c3, t, fi), o, ei), w, pw, rs) (nI i) = some 0 ∧ k_Mo_isFree m (nI i) = some 0) := by
  have hF := h.1
  unfold k_St_isFree k_Mo_isFree
  dsimp only
  rw [show k_Ta_get 1 100 w (nI i) 0 = some (m.2 0 i) from wl_get hw hi, Option.bind_some, if_neg (zo_in hi (by omega)), nI_clamp (by omega)]
  by_cases h0 : m.2 0 i = 0
  · rw [if_pos h0, if_pos h0]
    rcases r_stand (c3 := c3) (fi := fi) (nI i) h with ⟨r, h1, h2, h3, h4⟩ | ⟨h1, h2, h3⟩
    · refine Or.inr ⟨?_, ?_⟩
      · rw [h3, Option.bind_some, if_neg]
        intro e
        have g := nI_toInt (n := r) (by omega)
        rw [e] at g
        have g2 : (-1 : Int32).toInt = -1 := rfl
        omega
      · rw [h4, Option.bind_some, if_neg (z_ltz (by omega))]
    · refine Or.inl ⟨?_, ?_, h0, h1⟩
      · rw [h2, Option.bind_some, if_pos rfl]
      · rw [h3, Option.bind_some, if_pos (by decide)]
  · rw [if_neg h0, if_neg h0]
    exact Or.inr ⟨rfl, rfl⟩
