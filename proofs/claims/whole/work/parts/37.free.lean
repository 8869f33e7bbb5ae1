def zRW (w : zsT) (wall : Nat → Int32) : Prop := w.2 = nI 100 ∧ ∀ i, i < 100 → w.1 i = wall i ∧ (wall i = nI 0 ∨ wall i = nI 1)
theorem wl_get {i : Nat} {w : zsT} {wall : Nat → Int32} (h : zRW w wall) (hi : i < 100) : k_Ta_get 1 100 w (nI i) (nI 0) = some (wall i) := by
  have g := ta_get (w := 1) (n := 100) (c := 0) h.1 hi (by omega) (by omega) (by omega)
  rw [Nat.mul_one, Nat.add_zero, (h.2 i hi).1] at g
  exact g
theorem r_free {F i : Nat} {c3 : zsC} {t o w pw : zsT} {fi ei : Nat → Int32} {rs : Int32} {m : zsM} (hw : zRW w (m.2 0)) (h : zRF F t m) (hi : i < 100) : (k_St_isFree (((c3, t, fi), o, ei), w, pw, rs) (nI i) = some 1 ∧ k_Mo_isFree m (nI i) = some 1 ∧ m.2 0 i = 0 ∧ ∀ k, k < F → t.1 (k * 13 + 1) ≠ nI i) ∨ (k_St_isFree (((c3, t, fi), o, ei), w, pw, rs) (nI i) = some 0 ∧ k_Mo_isFree m (nI i) = some 0) := by
  have hF := h.1
  unfold k_St_isFree k_Mo_isFree
  dsimp only
  rw [show k_Ta_get 1 100 w (nI i) 0 = some (m.2 0 i) from wl_get hw hi, Option.bind_some, if_neg (zo_in hi (by omega)), nI_clamp (by omega)]
  by_cases h0 : m.2 0 i = 0
  · rw [if_pos h0, if_pos h0]
    rcases r_stand (c3 := c3) (fi := fi) (nI i) h with ⟨r, h1, h2, h3, h4⟩ | ⟨h1, h2, h3⟩
    · refine Or.inr ⟨?_, ?_⟩
      · rw [h3, Option.bind_some, if_neg]
        intro e
        have g := nI_toInt (n := r) (by omega)
        rw [e] at g
        have g2 : (-1 : Int32).toInt = -1 := rfl
        omega
      · rw [h4, Option.bind_some, if_neg (z_ltz (by omega))]
    · refine Or.inl ⟨?_, ?_, h0, h1⟩
      · rw [h2, Option.bind_some, if_pos rfl]
      · rw [h3, Option.bind_some, if_pos (by decide)]
  · rw [if_neg h0, if_neg h0]
    exact Or.inr ⟨rfl, rfl⟩
theorem r_walls_lp {e4 : zsE} {w pw : zsT} {rs x : Int32} {m : zsM} (hw : zRW w (m.2 0)) : ∀ (d i fu fu' : Nat) (s : Int32), i + d = 100 → d < fu → d < fu' → ∃ v, k_St_numberOfWalls_4 (e4, w, pw, rs) fu s (nI i) = some v ∧ k_Mo_account_134 m x fu' s (nI i) = some v := by
  intro d
  induction d with
  | zero =>
    intro i fu fu' s hi h1 h2'
    obtain ⟨fu, rfl, -⟩ := z_fuS h1
    obtain ⟨fu', rfl, -⟩ := z_fuS h2'
    refine ⟨s, ?_, ?_⟩
    · simp only [k_St_numberOfWalls_4]
      exact if_neg (show ¬ nI i < nI 100 from nI_nlt (by omega) (by omega))
    · simp only [k_Mo_account_134]
      exact if_neg (show ¬ nI i < nI 100 from nI_nlt (by omega) (by omega))
  | succ d ih =>
    intro i fu fu' s hi h1 h2'
    obtain ⟨fu, rfl, g1⟩ := z_fuS h1
    obtain ⟨fu', rfl, g2⟩ := z_fuS h2'
    have hi' : i < 100 := by omega
    simp only [k_St_numberOfWalls_4, k_Mo_account_134, z_100, z_0, if_pos (nI_lt hi' (show 100 < 2 ^ 31 by omega)), wl_get hw hi', Option.bind_some, if_neg (zo_in hi' (show 100 < 2 ^ 31 by omega)), nI_clamp (show i < 2 ^ 31 by omega), nI_1]
    exact ih _ _ _ _ (by omega) (by omega) (by omega)
theorem r_walls {e4 : zsE} {w pw : zsT} {rs : Int32} {m : zsM} (x : Int32) (hw : zRW w (m.2 0)) : ∃ v, k_St_numberOfWalls (e4, w, pw, rs) = some v ∧ k_Mo_account_134 m x zFu 0 0 = some v := r_walls_lp hw 100 0 zFu zFu 0 (by omega) (z_fu (by omega)) (z_fu (by omega))
theorem fi_foes {F f g : Nat} {c3 : zsC} {t : zsT} {fi : Nat → Int32} {m : zsM} (hr : zRF F t m) (hf : f < F) (hg : g < F) : k_Fi_areFoes (c3, t, fi) (nI f) (nI g) = some (if m.2 1 f = m.2 1 g then 0 else 1) := by
  unfold k_Fi_areFoes
  dsimp only
  rw [z_0, fi_get hr.2.1 hr.1 hf (by omega), Option.bind_some, fi_get hr.2.1 hr.1 hg (by omega), Option.bind_some, (hr.2.2.2 f hf).1, (hr.2.2.2 g hg).1]
  split <;> rfl
