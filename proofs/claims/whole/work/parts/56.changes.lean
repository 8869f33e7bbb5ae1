def zRK (b r : Nat) (K : zsK) (m : zsM) : Prop := ∃ c nx, c ≤ 6 ∧ nx < 6 ∧ K.2.1 = nI c ∧ K.2.2 = nI nx ∧ m.1 42 = nI c ∧ ∀ j, j < c → zSS b r (K.1 ((nx + 6 - c + j) % 6)) (zUn (m.2 40) (1013 * j))
theorem zRK_mono {b b' r r' : Nat} {K : zsK} {m : zsM} (h : zRK b r K m) (hb : b ≤ b') (hr : r ≤ r') : zRK b' r' K m := by
  obtain ⟨c, nx, h1, h2, h3, h4, h5, h6⟩ := h
  exact ⟨c, nx, h1, h2, h3, h4, h5, fun j hj => zSS_mono (h6 j hj) hb hr⟩
theorem zRK_cg {b r : Nat} {K : zsK} {m m' : zsM} (h : zRK b r K m) (h1 : m'.1 42 = m.1 42) (h2 : m'.2 40 = m.2 40) : zRK b r K m' := by
  unfold zRK
  rw [h1, h2]
  exact h
theorem mo_shift_lp : ∀ (d i fu : Nat) (m : zsM) (row : Nat → Int32), i + d = 5065 → d < fu → (∀ k, k < i → m.2 40 k = row (k + 1013)) → (∀ k, i ≤ k → m.2 40 k = row k) → ∃ row', k_Mo_remembers_11 fu (nI i) m = k_Mo_remembers_50 (upd m.1 42 (m.1 42 - 1), va_up m.2 40 row') ∧ ∀ k, k < 5065 → row' k = row (k + 1013) := by
  intro d
  induction d with
  | zero =>
    intro i fu m row hi h1 h2 h3
    obtain ⟨fu, rfl, -⟩ := z_fuS h1
    have : i = 5065 := by omega
    subst this
    refine ⟨m.2 40, ?_, h2⟩
    simp only [k_Mo_remembers_11]
    rw [if_neg (by decide), zup_id]
  | succ d ih =>
    intro i fu m row hi h1 h2 h3
    obtain ⟨fu, rfl, h1'⟩ := z_fuS h1
    have hN : ¬ zOut (nI (i + 1013)) 6078 := zo_in (by omega) (by omega)
    obtain ⟨row', e, h4⟩ := ih (i + 1) fu (m.1, va_up m.2 40 (upd (m.2 40) i (m.2 40 (i + 1013)))) row (by omega) (by omega) (fun k hk => by
      dsimp only
      rw [zup_s]
      by_cases hki : k = i
      · subst hki
        rw [zu_s]
        exact h3 _ (by omega)
      · rw [zu_n hki]
        exact h2 k (by omega)) (fun k hk => by
      dsimp only
      rw [zup_s, zu_n (by omega)]
      exact h3 k (by omega))
    refine ⟨row', ?_, h4⟩
    simp only [k_Mo_remembers_11]
    rw [if_pos (show nI i < 5065 from nI_lt (b := 5065) (by omega) (by omega)), show nI i + (1013 : Int32) = nI (i + 1013) from nI_add i 1013, if_neg hN, if_neg (zo_in (by omega) (by omega)), nI_clamp (by omega), nI_clamp (by omega), nI_1, e]
    dsimp only
    rw [zup_u]
theorem r_keep {b r : Nat} {y : zsS} {K : zsK} {m : zsM} (hb : b < 2 ^ 27) (h : zSS b r y m) (hK : zRK b r K m) : ∃ K' m', k_Ch_keep y K = some K' ∧ k_Mo_remembers m = some m' ∧ zRK b r K' m' ∧ (∀ i, i ≠ 42 → i ≠ 43 → i ≠ 45 → m'.1 i = m.1 i) ∧ ∀ a, a ≠ 40 → m'.2 a = m.2 a := by
  obtain ⟨c, nx, h1, h2, h3, h4, h5, h6⟩ := hK
  obtain ⟨z, e1, hz⟩ := r_become (K.1 nx) h hb
  have hcls : k_Ch_keep y K = some (va_up K.1 nx z, nI (min 6 (c + 1)), nI ((nx + 1) % 6)) := by
    unfold k_Ch_keep
    rw [h3, h4, if_neg (z_ltz (by omega)), if_pos (show nI nx < 6 from nI_lt (b := 6) h2 (by omega)), nI_clamp (by omega), e1, Option.bind_some, nI_1, nI_1, show zmin 6 (nI (c + 1)) = nI (min 6 (c + 1)) from zmin_nI (a := 6) (by omega) (by omega), show zrem (nI (nx + 1)) 6 = nI ((nx + 1) % 6) from z_rem (d := 6) (by omega) (by omega) (by omega)]
  have h50 : ∀ (x : zsM) (c : Nat), c < 6 → x.1 42 = nI c → k_Mo_remembers_50 x = some (upd (upd (upd x.1 45 1) 43 (nI (1013 * c + 1013))) 42 (nI (c + 1)), va_up x.2 40 (va_cpy (zWf x) (x.2 40) 0 (1013 * c) 1013)) := fun x c hc hx => by
    unfold k_Mo_remembers_50
    rw [hx, show (1013 : Int32) * nI c = nI (1013 * c) from pk_mul 1013 c, pa_keep_e x (1013 * c) (by omega), Option.bind_some]
    dsimp only
    rw [show upd (upd x.1 45 1) 43 (nI (1013 * c + 1013)) 42 = x.1 42 from rfl, hx, nI_1]
  by_cases hc6 : c = 6
  · subst hc6
    obtain ⟨row', e2, g2⟩ := mo_shift_lp 5065 0 zFu m (m.2 40) (by omega) (z_fu (by omega)) (fun k hk => by omega) (fun k _ => rfl)
    obtain ⟨X, hX⟩ : ∃ X : zsM, X = (upd m.1 42 (m.1 42 - 1), va_up m.2 40 row') := ⟨_, rfl⟩
    have hX42 : X.1 42 = nI 5 := by
      rw [hX]
      dsimp only
      rw [zu_s, h5]
      rfl
    have hX40 : X.2 40 = row' := by
      rw [hX]
      dsimp only
      exact zup_s
    have hXn : ∀ a, a ≠ 40 → X.2 a = m.2 a := fun a ha => by
      rw [hX]
      exact zup_n ha
    have hXi : ∀ i, i ≠ 42 → X.1 i = m.1 i := fun i hi => by
      rw [hX]
      exact zu_n hi
    have hmo := h50 X 5 (by omega) hX42
    have hmo2 : k_Mo_remembers m = k_Mo_remembers_50 X := by
      unfold k_Mo_remembers
      rw [h5, if_pos (show nI 6 = (6 : Int32) from rfl), show k_Mo_remembers_11 zFu 0 m = _ from e2, ← hX]
    refine ⟨_, _, hcls, hmo2.trans hmo, ⟨6, (nx + 1) % 6, by omega, by omega, rfl, rfl, ?_, fun j hj => ?_⟩, fun i a1 a2 a3 => ?_, fun a ha => ?_⟩
    · dsimp only
      exact zu_s
    · dsimp only
      rw [zup_s]
      by_cases hj5 : j = 5
      · subst hj5
        rw [show ((nx + 1) % 6 + 6 - 6 + 5) % 6 = nx by omega, zup_s]
        refine zSS_cg hz (zAg_tr (m' := X) ⟨fun i hi => hXi i (fun e => ?_), fun a k hk => congrFun (hXn a (fun e => ?_)) k⟩ (zUn_kp X (X.2 40) (1013 * 5)))
        · rw [e] at hi
          unfold zin at hi
          omega
        · rw [e] at hk
          unfold zan at hk
          omega
      · rw [zup_n (by omega), show ((nx + 1) % 6 + 6 - 6 + j) % 6 = (nx + 6 - 6 + (j + 1)) % 6 by omega]
        refine zSS_cg (h6 (j + 1) (by omega)) (zUn_cg fun p hp => ?_)
        rw [pk_cpy_out (by omega), hX40, g2 _ (by omega), show 1013 * j + p + 1013 = 1013 * (j + 1) + p by omega]
    · dsimp only
      rw [zu_n a1, zu_n a2, zu_n a3]
      exact hXi i a1
    · dsimp only
      rw [zup_n ha]
      exact hXn a ha
  · have hmo := h50 m c (by omega) h5
    have hmo2 : k_Mo_remembers m = k_Mo_remembers_50 m := by
      unfold k_Mo_remembers
      rw [h5, if_neg (show ¬ nI c = (6 : Int32) from fun e => hc6 ((nI_eq (b := 6) (by omega) (by omega)).1 e))]
    refine ⟨_, _, hcls, hmo2.trans hmo, ⟨c + 1, (nx + 1) % 6, by omega, by omega, ?_, rfl, ?_, fun j hj => ?_⟩, fun i a1 a2 a3 => ?_, fun a ha => ?_⟩
    · dsimp only
      rw [Nat.min_eq_right (by omega)]
    · dsimp only
      exact zu_s
    · dsimp only
      rw [zup_s]
      by_cases hj5 : j = c
      · subst hj5
        rw [show ((nx + 1) % 6 + 6 - (j + 1) + j) % 6 = nx by omega, zup_s]
        exact zSS_cg hz (zUn_kp m (m.2 40) (1013 * j))
      · rw [zup_n (by omega), show ((nx + 1) % 6 + 6 - (c + 1) + j) % 6 = (nx + 6 - c + j) % 6 by omega]
        refine zSS_cg (h6 j (by omega)) (zUn_cg fun p hp => ?_)
        have : 1013 * j + 1013 ≤ 1013 * c := by
          have : j + 1 ≤ c := by omega
          have := Nat.mul_le_mul_left 1013 this
          omega
        rw [pk_cpy_out (by omega)]
    · dsimp only
      rw [zu_n a1, zu_n a2, zu_n a3]
    · exact zup_n ha
theorem r_back {b r c nx : Nat} {y : zsS} {K : zsK} {m : zsM} (hb : b < 2 ^ 27) (h1 : c + 1 ≤ 6) (h2 : nx < 6) (h3 : K.2.1 = nI (c + 1)) (h4 : K.2.2 = nI nx) (h5 : m.1 42 = nI (c + 1)) (h6 : ∀ j, j < c + 1 → zSS b r (K.1 ((nx + 6 - (c + 1) + j) % 6)) (zUn (m.2 40) (1013 * j))) : ∃ y' K' m', k_Ch_takeBack (y, K) = some (y', K') ∧ K'.2.1 = nI c ∧ k_Mo_passAll_e (upd m.1 42 (nI c), m.2) (nI (1013 * c)) 0 = some m' ∧ m'.1 42 = nI c ∧ zSS b r y' m' ∧ zRK b r K' m' ∧ (∀ i, ¬ zin i → i ≠ 42 → i ≠ 43 → i ≠ 45 → m'.1 i = m.1 i) ∧ ∀ a, ¬ zan a 0 → m'.2 a = m.2 a := by
  have hl : zrem (nI nx + 6 - 1) 6 = nI ((nx + 5) % 6) := by
    rw [show nI nx + (6 : Int32) = nI (nx + 5 + 1) from nI_add nx 6, nI_pred]
    exact z_rem (d := 6) (by omega) (by omega) (by omega)
  have h7 := h6 c (by omega)
  rw [show (nx + 6 - (c + 1) + c) % 6 = (nx + 5) % 6 by omega] at h7
  obtain ⟨z, e1, hz⟩ := r_become y h7 hb
  obtain ⟨m', e2, g1, g2, g3, g4⟩ := pa_rs_e (upd m.1 42 (nI c), m.2) (1013 * c) (by omega)
  have h42 : m'.1 42 = nI c := by
    rw [g3 42 (by unfold zin; omega) (by decide) (by decide)]
    dsimp only
    exact zu_s
  refine ⟨z, (K.1, nI c, nI ((nx + 5) % 6)), m', ?_, rfl, e2, h42, zSS_cg hz g1, ⟨c, (nx + 5) % 6, by omega, by omega, rfl, rfl, h42, fun j hj => ?_⟩, fun i a1 a2 a3 a4 => ?_, fun a ha => g4 a ha⟩
  · unfold k_Ch_takeBack
    dsimp only
    rw [h4, hl, if_neg (z_ltz (by omega)), if_pos (show nI ((nx + 5) % 6) < 6 from nI_lt (b := 6) (by omega) (by omega)), h3, if_pos (show (0 : Int32) < nI (c + 1) from nI_lt (a := 0) (by omega) (by omega)), nI_clamp (by omega), e1, Option.bind_some, nI_pred]
  · rw [g2]
    dsimp only
    rw [show ((nx + 5) % 6 + 6 - c + j) % 6 = (nx + 6 - (c + 1) + j) % 6 by omega]
    exact h6 j (by omega)
  · rw [g3 i a1 a3 a4]
    exact zu_n a2
