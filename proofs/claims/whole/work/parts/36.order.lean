def zRO (M : Nat) (o : zsT) (m : zsM) : Prop := M ≤ 8 ∧ o.2 = nI M ∧ m.1 21 = nI M ∧ (∀ i, i < M → m.2 10 i = o.1 i ∧ ∃ f, f < M ∧ o.1 i = nI f) ∧ ∀ f, f < M → ∃ i, i < M ∧ o.1 i = nI f
theorem or_get {M i : Nat} {o : zsT} (h : o.2 = nI M) (hM : M ≤ 8) (hi : i < M) : k_Ta_get 1 8 o (nI i) (nI 0) = some (o.1 i) := by
  have g := ta_get (w := 1) (n := 8) (c := 0) h hi (by omega) (by omega) (by omega)
  rw [Nat.mul_one, Nat.add_zero] at g
  exact g
theorem r_place_lp {M : Nat} {f3 : zsF} {o : zsT} {ei : Nat → Int32} {m : zsM} {x : Int32} (h : zRO M o m) : ∀ (d i fu fu' : Nat), i + d = M → d < fu → d < fu' → (∃ r, i ≤ r ∧ r < M ∧ o.1 r = x ∧ k_En_placeOf_2 (f3, o, ei) x fu (nI i) = some (nI r) ∧ k_Mo_placeOf_2 m x fu' (nI i) = some (nI r)) ∨ ((∀ k, i ≤ k → k < M → o.1 k ≠ x) ∧ k_En_placeOf_2 (f3, o, ei) x fu (nI i) = some (-5) ∧ k_Mo_placeOf_2 m x fu' (nI i) = some (-5)) := by
  obtain ⟨hM, h2, h3, h4, -⟩ := h
  intro d
  induction d with
  | zero =>
    intro i fu fu' hi h1 h2'
    obtain ⟨fu, rfl, -⟩ := z_fuS h1
    obtain ⟨fu', rfl, -⟩ := z_fuS h2'
    refine Or.inr ⟨fun k g1 g2 => by omega, ?_, ?_⟩
    · simp only [k_En_placeOf_2, k_Ta_used, Option.bind_some, h2]
      rw [if_neg (nI_nlt (by omega) (by omega))]
    · simp only [k_Mo_placeOf_2, h3]
      rw [if_neg (nI_nlt (by omega) (by omega))]
  | succ d ih =>
    intro i fu fu' hi h1 h2'
    obtain ⟨fu, rfl, g1⟩ := z_fuS h1
    obtain ⟨fu', rfl, g2⟩ := z_fuS h2'
    have hi' : i < M := by omega
    have e1 : k_En_placeOf_2 (f3, o, ei) x (fu + 1) (nI i) = if o.1 i = x then some (nI i) else k_En_placeOf_2 (f3, o, ei) x fu (nI (i + 1)) := by
      simp only [k_En_placeOf_2, k_Ta_used, Option.bind_some, h2, z_0, if_pos (nI_lt hi' (show M < 2 ^ 31 by omega)), or_get h2 hM hi', nI_1]
    have e2 : k_Mo_placeOf_2 m x (fu' + 1) (nI i) = if o.1 i = x then some (nI i) else k_Mo_placeOf_2 m x fu' (nI (i + 1)) := by
      simp only [k_Mo_placeOf_2, h3, if_pos (nI_lt hi' (show M < 2 ^ 31 by omega)), if_neg (zo_in (show i < 8 by omega) (show 8 < 2 ^ 31 by omega)), nI_clamp (show i < 2 ^ 31 by omega), (h4 i hi').1, nI_1]
    by_cases a : o.1 i = x
    · rw [if_pos a] at e1 e2
      exact Or.inl ⟨i, Nat.le_refl _, hi', a, e1, e2⟩
    · rw [if_neg a] at e1 e2
      rcases ih (i + 1) fu fu' (by omega) (by omega) (by omega) with ⟨r, b1, b2, b3, b4, b5⟩ | ⟨b1, b2, b3⟩
      · exact Or.inl ⟨r, by omega, b2, b3, e1.trans b4, e2.trans b5⟩
      · refine Or.inr ⟨fun k g3 g4 => ?_, e1.trans b2, e2.trans b3⟩
        by_cases hk : k = i
        · subst hk
          exact a
        · exact b1 k (by omega) g4
theorem r_place {M : Nat} {f3 : zsF} {o : zsT} {ei : Nat → Int32} {m : zsM} (x : Int32) (h : zRO M o m) : (∃ r, r < M ∧ o.1 r = x ∧ k_En_placeOf (f3, o, ei) x = some (nI r) ∧ k_Mo_placeOf m x = some (nI r)) ∨ ((∀ k, k < M → o.1 k ≠ x) ∧ k_En_placeOf (f3, o, ei) x = some (-5) ∧ k_Mo_placeOf m x = some (-5)) := by
  have hM := h.1
  rcases r_place_lp (f3 := f3) (ei := ei) (x := x) h M 0 zFu zFu (by omega) (z_fu (by omega)) (z_fu (by omega)) with ⟨r, b1, b2, b3, b4, b5⟩ | ⟨b1, b2, b3⟩
  · exact Or.inl ⟨r, b2, b3, b4, b5⟩
  · exact Or.inr ⟨fun k hk => b1 k (by omega) hk, b2, b3⟩
theorem r_cur {M n : Nat} {f3 : zsF} {o : zsT} {ei : Nat → Int32} {m : zsM} (h : zRO M o m) (hn : n < M) (h5 : ei 5 = nI n) (h20 : m.1 20 = nI n) : ∃ f, f < M ∧ o.1 n = nI f ∧ k_En_current (f3, o, ei) = some (nI f) ∧ k_Mo_current m = some (nI f) := by
  obtain ⟨hM, h2, h3, h4, -⟩ := h
  obtain ⟨g1, f, g2, g3⟩ := h4 n hn
  refine ⟨f, g2, g3, ?_, ?_⟩
  · unfold k_En_current
    dsimp only
    rw [h5, z_0, or_get h2 hM hn, g3]
    rfl
  · unfold k_Mo_current
    rw [h20, if_neg (zo_in (by omega) (by omega)), nI_clamp (by omega), g1, g3]
