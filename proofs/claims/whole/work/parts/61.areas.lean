def zct (a : Nat → Int32) : Nat → Nat
  | 0 => 0
  | n + 1 => zct a n + (if a n = 0 then 0 else 1)
theorem zct_le (a : Nat → Int32) : ∀ n, zct a n ≤ n := by
  intro n
  induction n with
  | zero => exact Nat.le_refl _
  | succ n ih =>
    simp only [zct]
    split <;> omega
theorem zct_cg {a b : Nat → Int32} : ∀ n, (∀ c, c < n → a c = b c) → zct a n = zct b n := by
  intro n
  induction n with
  | zero => exact fun _ => rfl
  | succ n ih =>
    intro h
    simp only [zct]
    rw [ih fun c hc => h c (by omega), h n (by omega)]
theorem r_find_area_lp {sh og d s : Nat} (hsh : sh < 4) (hor : og < 100) (hd : d < 4) (hs : s < 6) : ∀ (e i fu : Nat) (a : Nat → Nat → Int32) (n : Nat → Int32), i + e = 100 → e < fu → (∀ c, c < i → k_EL_isInArea (nI sh) (nI og) (nI d) (nI s) (nI c) = some (a 39 c) ∧ (a 39 c = 0 ∨ a 39 c = 1)) → ∃ a', k_Mo_findArea_6 (nI sh) (nI og) (nI d) (nI s) fu (nI (zct (a 39) i)) (nI i) (n, a) = some (nI (zct (a' 39) 100), (n, a')) ∧ (∀ x, x ≠ 39 → a' x = a x) ∧ ∀ c, c < 100 → k_EL_isInArea (nI sh) (nI og) (nI d) (nI s) (nI c) = some (a' 39 c) ∧ (a' 39 c = 0 ∨ a' 39 c = 1) := by
  intro e
  induction e with
  | zero =>
    intro i fu a n hi h1 h
    obtain ⟨fu, rfl, -⟩ := z_fuS h1
    have : i = 100 := by omega
    subst this
    refine ⟨a, ?_, fun _ _ => rfl, h⟩
    simp only [k_Mo_findArea_6]
    rw [if_neg (by decide)]
  | succ e ih =>
    intro i fu a n hi h1 h
    obtain ⟨fu, rfl, h1'⟩ := z_fuS h1
    obtain ⟨v, v1, v2, v3⟩ := r_area (cell := i) hsh hor hd hs (by omega)
    obtain ⟨a', e1, e2, e3⟩ := ih (i + 1) fu (va_up a 39 (upd (a 39) i v)) n (by omega) (by omega) (fun c hc => by
      rw [zup_s]
      by_cases hci : c = i
      · subst hci
        rw [zu_s]
        exact ⟨v1, v3⟩
      · rw [zu_n hci]
        exact h c (by omega))
    refine ⟨a', ?_, fun x hx => (e2 x hx).trans (zup_n hx), e3⟩
    rw [← e1]
    have hz : zct (va_up a 39 (upd (a 39) i v) 39) (i + 1) = zct (a 39) i + (if v = 0 then 0 else 1) := by
      simp only [zct]
      rw [zup_s, zu_s, zct_cg i fun c hc => zu_n (by omega)]
    rw [hz]
    simp only [k_Mo_findArea_6, if_pos (show nI i < 100 from nI_lt (b := 100) (by omega) (by omega)), v2, Option.bind_some, if_pos v3, if_neg (zo_in (show i < 100 by omega) (show 100 < 2 ^ 31 by omega)), nI_clamp (show i < 2 ^ 31 by omega), zu_s, nI_1]
    by_cases hv : v = 0
    · rw [if_pos hv, if_pos hv, show nI (zct (a 39) i) + (0 : Int32) = nI (zct (a 39) i) from Int32.add_zero _]
      rfl
    · rw [if_neg hv, if_neg hv]
theorem r_find_area {sh og d s : Nat} {m : zsM} (hsh : sh < 4) (hor : og < 100) (hd : d < 4) (hs : s < 6) : ∃ a, k_Mo_findArea m (nI sh) (nI og) (nI d) (nI s) = some (nI (zct (a 39) 100), (m.1, a)) ∧ (∀ x, x ≠ 39 → a x = m.2 x) ∧ ∀ c, c < 100 → k_EL_isInArea (nI sh) (nI og) (nI d) (nI s) (nI c) = some (a 39 c) ∧ (a 39 c = 0 ∨ a 39 c = 1) :=
  r_find_area_lp hsh hor hd hs 100 0 zFu m.2 m.1 (by omega) (z_fu (by omega)) (fun c hc => by omega)
theorem r_area_lp {sh og d s : Nat} {X : zsX} {n : Nat → Int32} {a : Nat → Nat → Int32} (l5 : Int32) (hA : ∀ c, c < 100 → k_EL_isInArea (nI sh) (nI og) (nI d) (nI s) (nI c) = some (a 39 c) ∧ (a 39 c = 0 ∨ a 39 c = 1)) : ∀ (e i fu fu' : Nat) , i + e = 100 → e < fu → e < fu' → (l5 < 0 → l5 = -1) → ∃ v, k_EL_area_51 X (nI sh) (nI og) (nI d) (nI s) l5 fu (nI (zct (a 39) i)) (nI i) = some v ∧ (if l5 < 0 then some (nI (zct (a 39) 100), (n, a)) else k_Mo_area_71 (nI sh) (nI og) (nI d) (nI s) l5 fu' (nI (zct (a 39) i)) (nI i) (n, a)) = some (v, (n, a)) := by
  intro e
  induction e with
  | zero =>
    intro i fu fu' hi h1 h2 h5
    obtain ⟨fu, rfl, -⟩ := z_fuS h1
    obtain ⟨fu', rfl, -⟩ := z_fuS h2
    have : i = 100 := by omega
    subst this
    simp only [k_EL_area_51, k_Mo_area_71]
    rw [if_neg (show ¬ nI 100 < 100 by decide), if_neg (show ¬ nI 100 < 100 by decide)]
    by_cases h : l5 < 0
    · rw [if_pos h, if_pos (h5 h)]
      exact ⟨_, rfl, rfl⟩
    · rw [if_neg h, if_neg (fun q => h (by rw [q]; decide))]
      exact ⟨_, rfl, rfl⟩
  | succ e ih =>
    intro i fu fu' hi h1 h2 h5
    obtain ⟨fu, rfl, h1'⟩ := z_fuS h1
    obtain ⟨fu', rfl, h2'⟩ := z_fuS h2
    obtain ⟨g1, g2⟩ := hA i (by omega)
    have hle := zct_le (a 39) i
    obtain ⟨v, v1, v2⟩ := ih (i + 1) fu fu' (by omega) (by omega) (by omega) h5
    have hz : zct (a 39) (i + 1) = zct (a 39) i + (if a 39 i = 0 then 0 else 1) := rfl
    simp only [k_EL_area_51, k_Mo_area_71, if_pos (show nI i < 100 from nI_lt (b := 100) (by omega) (by omega)), g1, Option.bind_some, if_neg (zo_in (show i < 100 by omega) (show 100 < 2 ^ 31 by omega)), nI_clamp (show i < 2 ^ 31 by omega), nI_1]
    by_cases h0 : a 39 i = 0
    · rw [if_pos h0] at hz
      rw [hz] at v1 v2
      rw [if_pos h0, if_pos h0]
      exact ⟨v, v1, v2⟩
    · rw [if_neg h0] at hz
      rw [hz] at v1 v2
      rw [if_neg h0, if_neg h0]
      by_cases hl : l5 < 0
      · rw [if_pos hl] at v2 ⊢
        rw [if_neg]
        · exact ⟨v, v1, v2⟩
        · intro q
          rw [← q] at hl
          exact z_ltz (by omega) hl
      · rw [if_neg hl] at v2 ⊢
        by_cases hq : nI (zct (a 39) i) = l5
        · rw [if_pos hq, if_pos hq]
          exact ⟨_, rfl, rfl⟩
        · rw [if_neg hq, if_neg hq]
          exact ⟨v, v1, v2⟩
theorem z_cellc (a : Int32) : (∃ i, i < 100 ∧ a = nI i ∧ k_EL_isCell a = some 1 ∧ k_Mo_isCell a = some 1) ∨ (k_EL_isCell a = some 0 ∧ k_Mo_isCell a = some 0) := by
  unfold k_EL_isCell k_Mo_isCell
  by_cases h0 : a < 0
  · rw [if_pos h0]
    exact Or.inr ⟨rfl, rfl⟩
  · rw [if_neg h0]
    obtain ⟨i, hi, rfl⟩ := nI_of h0
    by_cases h1 : i < 100
    · rw [if_pos (show nI i < 100 from nI_lt (b := 100) h1 (by omega))]
      exact Or.inl ⟨i, h1, rfl, rfl, rfl⟩
    · rw [if_neg (show ¬ nI i < 100 from nI_nlt (b := 100) (by omega) (by omega))]
      exact Or.inr ⟨rfl, rfl⟩
theorem z_dirc (a : Int32) : (∃ i, i < 4 ∧ a = nI i ∧ k_EL_isDirection a = some 1 ∧ k_Mo_isBetween a 0 3 = some 1) ∨ (k_EL_isDirection a = some 0 ∧ k_Mo_isBetween a 0 3 = some 0) := by
  unfold k_EL_isDirection k_Mo_isBetween
  by_cases h0 : a < 0
  · rw [if_pos h0, if_pos h0]
    exact Or.inr ⟨rfl, rfl⟩
  · rw [if_neg h0, if_neg h0]
    obtain ⟨i, hi, rfl⟩ := nI_of h0
    by_cases h1 : i < 4
    · rw [if_pos (show nI i < 4 from nI_lt (b := 4) h1 (by omega)), if_neg (show ¬ (3 : Int32) < nI i from nI_nlt (a := 3) (by omega) (by omega))]
      exact Or.inl ⟨i, h1, rfl, rfl, rfl⟩
    · rw [if_neg (show ¬ nI i < 4 from nI_nlt (b := 4) (by omega) (by omega)), if_pos (show (3 : Int32) < nI i from nI_lt (a := 3) (by omega) (by omega))]
      exact Or.inr ⟨rfl, rfl⟩
theorem zRR_area {k : Nat} {x : zsX} {m : zsM} {a : Nat → Nat → Int32} (h : zRR k x m) (ha : ∀ x, x ≠ 39 → a x = m.2 x) : zRR (k + 1) x (m.1, a) := by
  obtain ⟨h1, h2⟩ := zRR_mono h
  refine ⟨zSS_cg h1 ⟨fun i _ => rfl, fun b c hb => congrFun (ha b (fun e => ?_)) c⟩, zRX_cg h2 rfl rfl rfl rfl (ha 34 (by decide)) (ha 41 (by decide)) (ha 40 (by decide))⟩
  rw [e] at hb
  unfold zan at hb
  omega
theorem op_area : OP_area zRR := by
  intro k x m a1 a2 a3 a4 a5 hk h
  have hm := zRR_mono h
  have hsh : (∃ i, i < 4 ∧ a1 = nI i) ∨ (k_Mo_isBetween a1 0 3 = some 0 ∧ (a1 < 0 ∨ ¬ a1 < 4)) := by
    rcases z_dirc a1 with ⟨i, h1, h2, -, -⟩ | ⟨h1, h2⟩
    · exact Or.inl ⟨i, h1, h2⟩
    · refine Or.inr ⟨h2, ?_⟩
      by_cases h3 : a1 < 0
      · exact Or.inl h3
      · refine Or.inr fun h4 => ?_
        unfold k_EL_isDirection at h1
        rw [if_neg h3, if_pos h4] at h1
        exact absurd (Option.some.inj h1) (by decide)
  unfold k_EL_area k_Mo_area
  rcases hsh with ⟨sh, h1, rfl⟩ | ⟨h1, h2⟩
  · have hb : k_Mo_isBetween (nI sh) 0 3 = some 1 := by
      unfold k_Mo_isBetween
      rw [if_neg (z_ltz (by omega)), if_neg (show ¬ (3 : Int32) < nI sh from nI_nlt (a := 3) (by omega) (by omega))]
    rw [hb, if_neg (z_ltz (by omega)), if_pos (show nI sh < 4 from nI_lt (b := 4) h1 (by omega)), Option.bind_some, if_neg (show ¬ (1 : Int32) = 0 by decide)]
    rcases z_cellc a2 with ⟨og, c1, rfl, c3, c4⟩ | ⟨c3, c4⟩
    · rw [c3, c4, Option.bind_some, Option.bind_some, if_neg (show ¬ (1 : Int32) = 0 by decide), if_neg (show ¬ (1 : Int32) = 0 by decide)]
      rcases z_dirc a3 with ⟨d, d1, rfl, d3, d4⟩ | ⟨d3, d4⟩
      · rw [d3, d4, Option.bind_some, Option.bind_some, if_neg (show ¬ (1 : Int32) = 0 by decide), if_neg (show ¬ (1 : Int32) = 0 by decide)]
        unfold k_Mo_isBetween
        by_cases s1 : a4 < 0
        · rw [if_pos s1, if_pos s1]
          exact ⟨_, _, rfl, rfl, hm⟩
        · rw [if_neg s1, if_neg s1]
          obtain ⟨s, hs, rfl⟩ := nI_of s1
          by_cases s2 : 5 < s
          · rw [if_pos (show (5 : Int32) < nI s from nI_lt (a := 5) s2 (by omega)), if_pos (show (5 : Int32) < nI s from nI_lt (a := 5) s2 (by omega))]
            exact ⟨_, _, rfl, rfl, hm⟩
          · rw [if_neg (show ¬ (5 : Int32) < nI s from nI_nlt (a := 5) (by omega) (by omega)), if_neg (show ¬ (5 : Int32) < nI s from nI_nlt (a := 5) (by omega) (by omega)), Option.bind_some, if_neg (show ¬ (1 : Int32) = 0 by decide)]
            by_cases i1 : a5 < -1
            · rw [if_pos i1, if_pos i1]
              exact ⟨_, _, rfl, rfl, hm⟩
            · rw [if_neg i1, if_neg i1]
              obtain ⟨a, f1, f2, f3⟩ := r_find_area (m := m) h1 c1 d1 (show s < 6 by omega)
              obtain ⟨v, v1, v2⟩ := r_area_lp (X := x) (n := m.1) a5 f3 100 0 zFu zFu (by omega) (z_fu (by omega)) (z_fu (by omega)) (fun q => by
                rw [z_eqt]
                rw [Int32.lt_iff_toInt_lt] at q i1
                have q1 : (0 : Int32).toInt = 0 := rfl
                have q2 : (-1 : Int32).toInt = -1 := rfl
                omega)
              refine ⟨v, (m.1, a), v1, ?_, zRR_area h f2⟩
              rw [f1, Option.bind_some]
              exact v2
      · rw [d3, d4, Option.bind_some, Option.bind_some, if_pos rfl, if_pos rfl]
        exact ⟨_, _, rfl, rfl, hm⟩
    · rw [c3, c4, Option.bind_some, Option.bind_some, if_pos rfl, if_pos rfl]
      exact ⟨_, _, rfl, rfl, hm⟩
  · rw [h1, Option.bind_some, if_pos rfl]
    rcases h2 with h2 | h2
    · rw [if_pos h2]
      exact ⟨_, _, rfl, rfl, hm⟩
    · by_cases h3 : a1 < 0
      · rw [if_pos h3]
        exact ⟨_, _, rfl, rfl, hm⟩
      · rw [if_neg h3, if_neg h2]
        exact ⟨_, _, rfl, rfl, hm⟩
