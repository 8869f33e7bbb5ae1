theorem zsub_t {a b : Int32} (h1 : -1000000000 ≤ a.toInt) (h2 : a.toInt ≤ 1000000000) (h3 : -1000000000 ≤ b.toInt) (h4 : b.toInt ≤ 1000000000) : (a - b).toInt = a.toInt - b.toInt := by
  rw [Int32.toInt_sub, Int.bmod_def]
  split <;> omega
theorem zadd_t {a b : Int32} (h1 : -1000000000 ≤ a.toInt) (h2 : a.toInt ≤ 1000000000) (h3 : -1000000000 ≤ b.toInt) (h4 : b.toInt ≤ 1000000000) : (a + b).toInt = a.toInt + b.toInt := by
  rw [Int32.toInt_add, Int.bmod_def]
  split <;> omega
theorem z_eqt {a b : Int32} : a = b ↔ a.toInt = b.toInt := ⟨fun h => by rw [h], fun h => Int32.toInt_inj.1 h⟩
theorem r_ahead {F f g : Nat} {c3 : zsC} {t o : zsT} {fi ei : Nat → Int32} {m : zsM} {wall : Nat → Int32} (hr : zRF F t m) (hR : zFR F t wall) (hf : f < F) (hg : g < F) : ∃ v, k_En_isAhead ((c3, t, fi), o, ei) (nI f) (nI g) = some v ∧ k_Mo_isAhead m (nI f) (nI g) = some v ∧ (v = 0 ∨ v = 1) := by
  have hF := hr.1
  obtain ⟨-, -, -, ⟨a1, a2⟩, -, ⟨a3, a4⟩, -⟩ := hR.1 f hf
  obtain ⟨-, -, -, ⟨b1, b2⟩, -, ⟨b3, b4⟩, -⟩ := hR.1 g hg
  obtain ⟨-, -, -, -, f5, -, f7, -⟩ := hr.2.2.2 f hf
  obtain ⟨-, -, -, -, g5, -, g7, -⟩ := hr.2.2.2 g hg
  have s1 := zsub_t (a := t.1 (f * 13 + 6)) (b := t.1 (g * 13 + 6)) (by omega) (by omega) (by omega) (by omega)
  have s2 := zsub_t (a := t.1 (f * 13 + 4)) (b := t.1 (g * 13 + 4)) (by omega) (by omega) (by omega) (by omega)
  have h0 : (0 : Int32).toInt = 0 := rfl
  have e1 : k_En_isAhead ((c3, t, fi), o, ei) (nI f) (nI g) = if 0 < t.1 (f * 13 + 6) - t.1 (g * 13 + 6) then some 1 else if t.1 (f * 13 + 6) - t.1 (g * 13 + 6) = 0 then (if 0 < t.1 (f * 13 + 4) - t.1 (g * 13 + 4) then some 1 else some 0) else some 0 := by
    unfold k_En_isAhead k_Fi_at
    dsimp only
    rw [z_6, z_4, fi_get hr.2.1 hF hf (show 6 < 13 by omega), fi_get hr.2.1 hF hg (show 6 < 13 by omega), fi_get hr.2.1 hF hf (show 4 < 13 by omega), fi_get hr.2.1 hF hg (show 4 < 13 by omega)]
    rfl
  have e2 : k_Mo_isAhead m (nI f) (nI g) = if t.1 (f * 13 + 6) = t.1 (g * 13 + 6) then (if t.1 (g * 13 + 4) < t.1 (f * 13 + 4) then some 1 else some 0) else (if t.1 (g * 13 + 6) < t.1 (f * 13 + 6) then some 1 else some 0) := by
    unfold k_Mo_isAhead
    simp only [if_neg (zo_in (show f < 8 by omega) (show 8 < 2 ^ 31 by omega)), if_neg (zo_in (show g < 8 by omega) (show 8 < 2 ^ 31 by omega)), nI_clamp (show f < 2 ^ 31 by omega), nI_clamp (show g < 2 ^ 31 by omega), f5, f7, g5, g7]
  rw [e1, e2]
  simp only [Int32.lt_iff_toInt_lt, z_eqt, s1, s2, h0]
  by_cases c1 : (t.1 (f * 13 + 6)).toInt = (t.1 (g * 13 + 6)).toInt
  · rw [if_neg (show ¬ 0 < (t.1 (f * 13 + 6)).toInt - (t.1 (g * 13 + 6)).toInt by omega), if_pos (show (t.1 (f * 13 + 6)).toInt - (t.1 (g * 13 + 6)).toInt = 0 by omega), if_pos c1]
    by_cases c2 : (t.1 (g * 13 + 4)).toInt < (t.1 (f * 13 + 4)).toInt
    · rw [if_pos (show 0 < (t.1 (f * 13 + 4)).toInt - (t.1 (g * 13 + 4)).toInt by omega), if_pos c2]
      exact ⟨1, rfl, rfl, Or.inr rfl⟩
    · rw [if_neg (show ¬ 0 < (t.1 (f * 13 + 4)).toInt - (t.1 (g * 13 + 4)).toInt by omega), if_neg c2]
      exact ⟨0, rfl, rfl, Or.inl rfl⟩
  · rw [if_neg c1]
    by_cases c2 : (t.1 (g * 13 + 6)).toInt < (t.1 (f * 13 + 6)).toInt
    · rw [if_pos (show 0 < (t.1 (f * 13 + 6)).toInt - (t.1 (g * 13 + 6)).toInt by omega), if_pos c2]
      exact ⟨1, rfl, rfl, Or.inr rfl⟩
    · rw [if_neg (show ¬ 0 < (t.1 (f * 13 + 6)).toInt - (t.1 (g * 13 + 6)).toInt by omega), if_neg (show ¬ (t.1 (f * 13 + 6)).toInt - (t.1 (g * 13 + 6)).toInt = 0 by omega), if_neg c2]
      exact ⟨0, rfl, rfl, Or.inl rfl⟩
