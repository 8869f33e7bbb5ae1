theorem r_inTurn_lp2 {F M : Nat} {o : zsT} {m : zsM} (l1 : Int32) (ho : zRO M o m) (hF : F ≤ 8) (h11 : m.1 11 = nI F) : ∀ (left f fu : Nat), M ≤ f → f + left < F → left < fu → k_Mo_inTurn_24 m l1 fu (nI left) (nI f) = some (nI (f + left)) := by
  have hpl : ∀ f, M ≤ f → f < 8 → k_Mo_placeOf m (nI f) = some (-5) := fun f h1 h2 => by
    rcases r_place (f3 := ((((fun _ => 0), 0), ((fun _ => 0), 0), (fun _ => 0)), ((fun _ => 0), 0), (fun _ => 0))) (ei := fun _ => 0) (nI f) ho with ⟨r, r1, r2, -, -⟩ | ⟨-, -, r3⟩
    · obtain ⟨-, g, g1, g2⟩ := ho.2.2.2.1 r r1
      rw [r2] at g2
      have := (nI_eq (by omega) (by omega)).1 g2
      omega
    · exact r3
  intro left
  induction left with
  | zero =>
    intro f fu h1 h2 hf
    obtain ⟨fu, rfl, -⟩ := z_fuS hf
    simp only [k_Mo_inTurn_24, h11]
    rw [if_pos (nI_lt (by omega) (by omega)), hpl f h1 (by omega), Option.bind_some, if_pos (by decide), if_pos nI_0]
    rfl
  | succ left ih =>
    intro f fu h1 h2 hf
    obtain ⟨fu, rfl, hf'⟩ := z_fuS hf
    simp only [k_Mo_inTurn_24, h11]
    rw [if_pos (nI_lt (by omega) (by omega)), hpl f h1 (by omega), Option.bind_some, if_pos (by decide), if_neg (nI_ne0 (by omega) (by omega)), z_m1, nI_1, ih (f + 1) fu (by omega) (by omega) (by omega), show f + 1 + left = f + (left + 1) by omega]
theorem r_inTurn_lp {F M : Nat} {o : zsT} {m : zsM} (l1 : Int32) (ho : zRO M o m) (hF : F ≤ 8) (hMF : M ≤ F) (h11 : m.1 11 = nI F) : ∀ (d f fu left : Nat), f + d = M → d < fu → M + left < F → d + left < fu → k_Mo_inTurn_24 m l1 fu (nI left) (nI f) = some (nI (M + left)) := by
  intro d
  induction d with
  | zero =>
    intro f fu left h1 hf h2 hf2
    have : f = M := by omega
    subst this
    exact r_inTurn_lp2 l1 ho hF h11 left f fu (Nat.le_refl _) h2 (by omega)
  | succ d ih =>
    intro f fu left h1 hf h2 hf2
    obtain ⟨fu, rfl, hf'⟩ := z_fuS hf
    have hpl : ∃ r, r < M ∧ k_Mo_placeOf m (nI f) = some (nI r) := by
      rcases r_place (f3 := ((((fun _ => 0), 0), ((fun _ => 0), 0), (fun _ => 0)), ((fun _ => 0), 0), (fun _ => 0))) (ei := fun _ => 0) (nI f) ho with ⟨r, r1, r2, -, r4⟩ | ⟨r1, -, r3⟩
      · exact ⟨r, r1, r4⟩
      · obtain ⟨k, k1, k2⟩ := ho.2.2.2.2 f (by omega)
        exact absurd k2 (r1 k k1)
    obtain ⟨r, r1, r2⟩ := hpl
    simp only [k_Mo_inTurn_24, h11]
    rw [if_pos (nI_lt (by omega) (by omega)), r2, Option.bind_some, if_neg (z_ltz (by omega)), nI_1]
    exact ih (f + 1) fu left (by omega) (by omega) h2 (by omega)
theorem r_inTurn {F M k : Nat} {f3 : zsF} {o : zsT} {ei : Nat → Int32} {m : zsM} (ho : zRO M o m) (hF : F ≤ 8) (hMF : M ≤ F) (h11 : m.1 11 = nI F) (hk : k < F) : ∃ f, f < F ∧ k_En_inOrder (f3, o, ei) (nI k) = some (nI f) ∧ k_Mo_inTurn m (nI k) = some (nI f) := by
  by_cases hkM : k < M
  · obtain ⟨g1, f, g2, g3⟩ := ho.2.2.2.1 k hkM
    refine ⟨f, by omega, ?_, ?_⟩
    · unfold k_En_inOrder
      dsimp only
      rw [ta_holds ho.2.1 hkM (by omega), Option.bind_some, if_neg (by decide), z_0, or_get ho.2.1 ho.1 hkM, Option.bind_some, g3]
    · unfold k_Mo_inTurn
      rw [ho.2.2.1, if_pos (nI_lt hkM (by omega)), if_neg (zo_in (by omega) (by omega)), nI_clamp (by omega), g1, g3]
  · refine ⟨k, hk, ?_, ?_⟩
    · unfold k_En_inOrder k_Ta_holds
      dsimp only
      rw [ho.2.1, if_neg (z_ltz (by omega)), if_neg (nI_nlt (by omega) (by omega)), Option.bind_some, if_pos rfl]
    · unfold k_Mo_inTurn
      rw [ho.2.2.1, if_neg (nI_nlt (by omega) (by omega)), pk_sub (by omega), z_0, r_inTurn_lp (nI k) ho hF hMF h11 M 0 zFu (k - M) (by omega) (z_fu (by omega)) (by omega) (z_fu (by omega)), show M + (k - M) = k by omega]
theorem zmax0 (a : Int32) : zmax 0 a = if a < 0 then 0 else a := by
  have h0 : (0 : Int32).toInt = 0 := rfl
  unfold zmax
  by_cases h : a < 0
  · rw [if_pos h, if_neg]
    rw [Int32.lt_iff_toInt_lt] at h ⊢
    omega
  · rw [if_neg h]
    by_cases h2 : 0 < a
    · rw [if_pos h2]
    · rw [if_neg h2, z_eqt]
      rw [Int32.lt_iff_toInt_lt] at h h2
      omega
theorem r_left {F M n : Nat} {P : zsP} {I R : Int32} {W : zsW} {j c t o w pw : zsT} {p fi ei : Nat → Int32} {rs : Int32} {K : zsK} {sv : zsS} {m : zsM} (hc : zRC F c (m.1 16) (m.2 15)) (hr : zRF F t m) (ho : zRO M o m) (hMF : M ≤ F) (hn : n < M) (h5 : ei 5 = nI n) (h20 : m.1 20 = nI n) (h6 : ei 6 = m.1 23) : ∃ v, k_EL_stepsLeft (P, I, R, W, ((((j, c, p), t, fi), o, ei), w, pw, rs), K, sv) = some v ∧ k_Mo_left m = some v := by
  have hF := hr.1
  obtain ⟨f, hf, hof, c1, c2⟩ := r_cur (f3 := ((j, c, p), t, fi)) ho hn h5 h20
  obtain ⟨L, ht, hm, hg⟩ := hc
  obtain ⟨v, a1, a2⟩ := r_sumOf (j := j) (p := p) (nI f) 3 ht hm (zGd_lr hg)
  obtain ⟨-, -, -, -, -, g6, -, -⟩ := hr.2.2.2 f (by omega)
  have hg5 : k_Ta_get 13 104 t (nI f) 5 = some (t.1 (f * 13 + 5)) := fi_get (q := 5) hr.2.1 hF (by omega) (by omega)
  obtain ⟨s, hs⟩ : ∃ s, s = t.1 (f * 13 + 5) := ⟨_, rfl⟩
  rw [← hs] at g6 hg5
  unfold k_EL_stepsLeft k_Mo_left
  dsimp only
  rw [c1, c2]
  simp only [Option.bind_some, k_Fi_at, hg5, a1, a2, k_EL_stepsLeft_46, k_Mo_left_19, if_neg (zo_in (show f < 8 by omega) (show 8 < 2 ^ 31 by omega)), nI_clamp (show f < 2 ^ 31 by omega), g6, zmax0, h6]
  by_cases hv : 0 < v
  · rw [if_pos hv, if_pos hv]
    refine ⟨_, rfl, ?_⟩
    split <;> rfl
  · rw [if_neg hv, if_neg hv, Int32.one_mul]
    refine ⟨_, rfl, ?_⟩
    split <;> rfl
