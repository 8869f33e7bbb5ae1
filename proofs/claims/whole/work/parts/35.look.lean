theorem r_stand_lp {F : Nat} {c3 : zsC} {t : zsT} {fi : Nat → Int32} {m : zsM} {x : Int32} (h : zRF F t m) : ∀ (d i fu fu' : Nat), i + d = F → d < fu → d < fu' → (∃ r, i ≤ r ∧ r < F ∧ t.1 (r * 13 + 1) = x ∧ k_Fi_standingOn_2 (c3, t, fi) x fu (nI i) = some (nI r) ∧ k_Mo_fighterOn_2 m x fu' (nI i) = some (nI r)) ∨ ((∀ k, i ≤ k → k < F → t.1 (k * 13 + 1) ≠ x) ∧ k_Fi_standingOn_2 (c3, t, fi) x fu (nI i) = some (-1) ∧ k_Mo_fighterOn_2 m x fu' (nI i) = some (-1)) := by
  obtain ⟨hF, h2, h3, h4⟩ := h
  intro d
  induction d with
  | zero =>
    intro i fu fu' hi h1 h2'
    obtain ⟨fu, rfl, -⟩ := z_fuS h1
    obtain ⟨fu', rfl, -⟩ := z_fuS h2'
    refine Or.inr ⟨fun k g1 g2 => by omega, ?_, ?_⟩
    · simp only [k_Fi_standingOn_2, k_Ta_used, Option.bind_some, h2]
      rw [if_neg (nI_nlt (by omega) (by omega))]
    · simp only [k_Mo_fighterOn_2, h3]
      rw [if_neg (nI_nlt (by omega) (by omega))]
  | succ d ih =>
    intro i fu fu' hi h1 h2'
    obtain ⟨fu, rfl, g1⟩ := z_fuS h1
    obtain ⟨fu', rfl, g2⟩ := z_fuS h2'
    have hi' : i < F := by omega
    have e1 : k_Fi_standingOn_2 (c3, t, fi) x (fu + 1) (nI i) = if t.1 (i * 13 + 1) = x then some (nI i) else k_Fi_standingOn_2 (c3, t, fi) x fu (nI (i + 1)) := by
      simp only [k_Fi_standingOn_2, k_Ta_used, Option.bind_some, h2, z_1, if_pos (nI_lt hi' (show F < 2 ^ 31 by omega)), fi_get h2 hF hi' (show 1 < 13 by omega), nI_add]
    have e2 : k_Mo_fighterOn_2 m x (fu' + 1) (nI i) = if t.1 (i * 13 + 1) = x then some (nI i) else k_Mo_fighterOn_2 m x fu' (nI (i + 1)) := by
      simp only [k_Mo_fighterOn_2, h3, z_1, if_pos (nI_lt hi' (show F < 2 ^ 31 by omega)), if_neg (zo_in (show i < 8 by omega) (by omega)), nI_clamp (show i < 2 ^ 31 by omega), (h4 i hi').2.1, nI_add]
    by_cases a : t.1 (i * 13 + 1) = x
    · rw [if_pos a] at e1 e2
      exact Or.inl ⟨i, Nat.le_refl _, hi', a, e1, e2⟩
    · rw [if_neg a] at e1 e2
      rcases ih (i + 1) fu fu' (by omega) (by omega) (by omega) with ⟨r, b1, b2, b3, b4, b5⟩ | ⟨b1, b2, b3⟩
      · exact Or.inl ⟨r, by omega, b2, b3, e1.trans b4, e2.trans b5⟩
      · refine Or.inr ⟨fun k g3 g4 => ?_, e1.trans b2, e2.trans b3⟩
        by_cases hk : k = i
        · subst hk
          exact a
        · exact b1 k (by omega) g4
theorem r_stand {F : Nat} {c3 : zsC} {t : zsT} {fi : Nat → Int32} {m : zsM} (x : Int32) (h : zRF F t m) : (∃ r, r < F ∧ t.1 (r * 13 + 1) = x ∧ k_Fi_standingOn (c3, t, fi) x = some (nI r) ∧ k_Mo_fighterOn m x = some (nI r)) ∨ ((∀ k, k < F → t.1 (k * 13 + 1) ≠ x) ∧ k_Fi_standingOn (c3, t, fi) x = some (-1) ∧ k_Mo_fighterOn m x = some (-1)) := by
  have hF := h.1
  rcases r_stand_lp (c3 := c3) (fi := fi) (x := x) h F 0 zFu zFu (by omega) (z_fu (by omega)) (z_fu (by omega)) with ⟨r, b1, b2, b3, b4, b5⟩ | ⟨b1, b2, b3⟩
  · exact Or.inl ⟨r, b2, b3, b4, b5⟩
  · exact Or.inr ⟨fun k hk => b1 k (by omega) hk, b2, b3⟩
theorem r_canAct {F f : Nat} {j c t : zsT} {p fi : Nat → Int32} {m : zsM} (hc : zRC F c (m.1 16) (m.2 15)) (hr : zRF F t m) (hf : f < F) : ∃ v, k_Fi_canAct ((j, c, p), t, fi) (nI f) = some v ∧ k_Mo_canAct m (nI f) = some v ∧ (v = 0 ∨ v = 1) := by
  have hF := hr.1
  obtain ⟨L, ht, hm, hg⟩ := hc
  obtain ⟨v1, a1, a2⟩ := r_sumOf (j := j) (p := p) (nI f) 1 ht hm (zGd_lr hg)
  obtain ⟨v5, a3, a4⟩ := r_sumOf (j := j) (p := p) (nI f) 5 ht hm (zGd_lr hg)
  have e1 : k_Fi_isDown ((j, c, p), t, fi) (nI f) = some (if m.2 4 f = 0 then 1 else 0) := by
    unfold k_Fi_isDown
    dsimp only
    rw [z_2, fi_get hr.2.1 hF hf (by omega), Option.bind_some, (hr.2.2.2 f hf).2.2.1]
    split <;> rfl
  unfold k_Fi_canAct k_Mo_canAct
  rw [e1, mo_isDown (by omega), Option.bind_some, Option.bind_some, a1, a2, a3, a4]
  simp only [Option.bind_some]
  by_cases h0 : m.2 4 f = 0
  · rw [if_pos h0, if_neg (by decide)]
    exact ⟨0, rfl, rfl, Or.inl rfl⟩
  · rw [if_neg h0, if_pos rfl]
    by_cases h1 : v1 = 0
    · rw [if_pos h1]
      by_cases h5 : v5 = 0
      · rw [if_pos h5]
        exact ⟨1, rfl, rfl, Or.inr rfl⟩
      · rw [if_neg h5]
        exact ⟨0, rfl, rfl, Or.inl rfl⟩
    · rw [if_neg h1]
      exact ⟨0, rfl, rfl, Or.inl rfl⟩
theorem fi_isDown {F f : Nat} {c3 : zsC} {t : zsT} {fi : Nat → Int32} {m : zsM} (hr : zRF F t m) (hf : f < F) : k_Fi_isDown (c3, t, fi) (nI f) = some (if m.2 4 f = 0 then 1 else 0) := by
  unfold k_Fi_isDown
  dsimp only
  rw [z_2, fi_get hr.2.1 hr.1 hf (by omega), Option.bind_some, (hr.2.2.2 f hf).2.2.1]
  split <;> rfl
theorem r_down_lp {F : Nat} {c3 : zsC} {t : zsT} {fi : Nat → Int32} {m : zsM} {x : Int32} (h : zRF F t m) : ∀ (d i fu fu' : Nat) (s : Int32), i + d = F → d < fu → d < fu' → ∃ v, k_Fi_numberDown_4 (c3, t, fi) fu s (nI i) = some v ∧ k_Mo_account_67 m x fu' s (nI i) = some v := by
  have hF := h.1
  intro d
  induction d with
  | zero =>
    intro i fu fu' s hi h1 h2'
    obtain ⟨fu, rfl, -⟩ := z_fuS h1
    obtain ⟨fu', rfl, -⟩ := z_fuS h2'
    refine ⟨s, ?_, ?_⟩
    · simp only [k_Fi_numberDown_4, k_Ta_used, Option.bind_some, h.2.1]
      rw [if_neg (nI_nlt (by omega) (by omega))]
    · simp only [k_Mo_account_67, h.2.2.1]
      rw [if_neg (nI_nlt (by omega) (by omega))]
  | succ d ih =>
    intro i fu fu' s hi h1 h2'
    obtain ⟨fu, rfl, g1⟩ := z_fuS h1
    obtain ⟨fu', rfl, g2⟩ := z_fuS h2'
    have hi' : i < F := by omega
    simp only [k_Fi_numberDown_4, k_Mo_account_67, k_Ta_used, Option.bind_some, h.2.1, h.2.2.1, if_pos (nI_lt hi' (show F < 2 ^ 31 by omega)), fi_isDown h hi', mo_isDown (m := m) (show i < 8 by omega), nI_1]
    by_cases a : m.2 4 i = 0
    · rw [if_pos a, if_neg (by decide)]
      exact ih _ _ _ _ (by omega) (by omega) (by omega)
    · rw [if_neg a, if_pos rfl, if_pos rfl, show s + 0 = s from Int32.add_zero s]
      exact ih _ _ _ _ (by omega) (by omega) (by omega)
theorem r_down {F : Nat} {c3 : zsC} {t : zsT} {fi : Nat → Int32} {m : zsM} (x : Int32) (h : zRF F t m) : ∃ v, k_Fi_numberDown (c3, t, fi) = some v ∧ k_Mo_account_67 m x zFu 0 0 = some v := r_down_lp h F 0 zFu zFu 0 (by omega) (z_fu (by have := h.1; omega)) (z_fu (by have := h.1; omega))
theorem r_lives_lp {F : Nat} {c3 : zsC} {t : zsT} {fi : Nat → Int32} {m : zsM} {x : Int32} (h : zRF F t m) : ∀ (d i fu fu' : Nat) (s : Int32), i + d = F → d < fu → d < fu' → ∃ v, k_Fi_livesOf_4 (c3, t, fi) x fu s (nI i) = some v ∧ k_Mo_livesOf_4 m x fu' s (nI i) = some v := by
  have hF := h.1
  intro d
  induction d with
  | zero =>
    intro i fu fu' s hi h1 h2'
    obtain ⟨fu, rfl, -⟩ := z_fuS h1
    obtain ⟨fu', rfl, -⟩ := z_fuS h2'
    refine ⟨s, ?_, ?_⟩
    · simp only [k_Fi_livesOf_4, k_Ta_used, Option.bind_some, h.2.1]
      rw [if_neg (nI_nlt (by omega) (by omega))]
    · simp only [k_Mo_livesOf_4, h.2.2.1]
      rw [if_neg (nI_nlt (by omega) (by omega))]
  | succ d ih =>
    intro i fu fu' s hi h1 h2'
    obtain ⟨fu, rfl, g1⟩ := z_fuS h1
    obtain ⟨fu', rfl, g2⟩ := z_fuS h2'
    have hi' : i < F := by omega
    obtain ⟨m1, m2, m3, -⟩ := h.2.2.2 i hi'
    simp only [k_Fi_livesOf_4, k_Mo_livesOf_4, k_Ta_used, Option.bind_some, h.2.1, h.2.2.1, if_pos (nI_lt hi' (show F < 2 ^ 31 by omega)), z_0, z_2, z_1, fi_get h.2.1 hF hi' (show 0 < 13 by omega), fi_get h.2.1 hF hi' (show 2 < 13 by omega), if_neg (zo_in (show i < 8 by omega) (show 8 < 2 ^ 31 by omega)), nI_clamp (show i < 2 ^ 31 by omega), m1, m3, nI_add, zadd0]
    by_cases a : t.1 (i * 13 + 0) = x
    · rw [if_pos a, if_pos a]
      exact ih _ _ _ _ (by omega) (by omega) (by omega)
    · rw [if_neg a, if_neg a]
      exact ih _ _ _ _ (by omega) (by omega) (by omega)
theorem r_lives {F : Nat} {c3 : zsC} {t : zsT} {fi : Nat → Int32} {m : zsM} (x : Int32) (h : zRF F t m) : ∃ v, k_Fi_livesOf (c3, t, fi) x = some v ∧ k_Mo_livesOf m x = some v := r_lives_lp h F 0 zFu zFu 0 (by omega) (z_fu (by have := h.1; omega)) (z_fu (by have := h.1; omega))
