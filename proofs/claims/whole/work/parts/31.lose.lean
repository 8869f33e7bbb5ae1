theorem r_lose {b F f : Nat} {j c t : zsT} {p fi : Nat → Int32} {m : zsM} (l2 l3 x : Int32) (h : zRI b F j c t fi m) (hb : b + 1000 < 2 ^ 27) (hf : f < F) : ∃ v j' c' t' fi' m', k_Fi_lose ((j, c, p), t, fi) (nI f) x = some (v, ((j', c', p), t', fi')) ∧ (if m.2 4 f = 0 then some ((0 : Int32), m) else k_Mo_harms_33 (nI f) l2 l3 x m) = some (v, m') ∧ zRI (b + 385) F j' c' t' fi' m' ∧ zFrF m m' := by
  obtain ⟨hj, hc, hr, hR, h3, h4⟩ := h
  have hF := hr.1
  obtain ⟨-, -, ⟨v0, w0, g1, g2, g3, g4, g5⟩, -⟩ := hR.1 f hf
  have hl := (hr.2.2.2 f hf).2.2.1
  rw [g4] at hl
  have G := fun q hq => fi_get (q := q) hr.2.1 hF hf hq
  have hsame : k_Fi_lose ((j, c, p), t, fi) (nI f) x = some (0, ((j, c, p), t, fi)) → (if m.2 4 f = 0 then some ((0 : Int32), m) else k_Mo_harms_33 (nI f) l2 l3 x m) = some (0, m) → ∃ v j' c' t' fi' m', k_Fi_lose ((j, c, p), t, fi) (nI f) x = some (v, ((j', c', p), t', fi')) ∧ (if m.2 4 f = 0 then some ((0 : Int32), m) else k_Mo_harms_33 (nI f) l2 l3 x m) = some (v, m') ∧ zRI (b + 385) F j' c' t' fi' m' ∧ zFrF m m' := fun e1 e2 => ⟨0, j, c, t, fi, m, e1, e2, ⟨zRJ_mono hj (by omega), hc, hr, hR, h3, h4⟩, zFrF_rfl m⟩
  have hneg : x < 0 → k_Fi_lose ((j, c, p), t, fi) (nI f) x = some (0, ((j, c, p), t, fi)) := fun hx => by
    unfold k_Fi_lose
    dsimp only
    rw [z_2, G 2 (by omega), Option.bind_some, g4]
    have e : zmin (nI v0) x = x := by
      unfold zmin
      rw [if_pos]
      have := nI_toInt (n := v0) (by omega)
      rw [Int32.lt_iff_toInt_lt] at hx ⊢
      have h0 : (0 : Int32).toInt = 0 := rfl
      omega
    rw [e, if_neg]
    rw [Int32.lt_iff_toInt_lt] at hx ⊢
    omega
  have hnn : ∀ a, x = nI a → a < 2 ^ 31 → k_Fi_lose ((j, c, p), t, fi) (nI f) x = if 0 < min v0 a then (k_Jo_write j 1 (nI f) (nI (min v0 a))).bind fun o4 => if min v0 a = v0 then (k_Co_endAllOf (o4, c, p) (nI f)).bind fun o7 => some (nI (min v0 a), (o7, (upd t.1 (f * 13 + 2) (nI (v0 - min v0 a)), t.2), upd fi 3 (fi 3 + nI (min v0 a)))) else (k_Co_endHarmedOf (o4, c, p) (nI f)).bind fun o6 => some (nI (min v0 a), (o6, (upd t.1 (f * 13 + 2) (nI (v0 - min v0 a)), t.2), upd fi 3 (fi 3 + nI (min v0 a)))) else some (0, ((j, c, p), t, fi)) := fun a ha ha2 => by
    unfold k_Fi_lose
    dsimp only
    rw [z_2, G 2 (by omega), Option.bind_some, g4, ha, zmin_nI (by omega) ha2, fi_set hr.2.1 hF hf (by omega), pk_sub (by omega)]
    by_cases h0 : 0 < min v0 a
    · rw [if_pos (show (0 : Int32) < nI (min v0 a) from nI_lt (a := 0) h0 (by omega)), if_pos h0, Option.bind_some]
      congr 1
      funext o4
      by_cases h1 : min v0 a = v0
      · rw [if_pos h1, if_pos (by rw [h1])]
      · rw [if_neg h1, if_neg fun h2 => h1 ((nI_eq (by omega) (by omega)).1 h2)]
    · rw [if_neg (show ¬ (0 : Int32) < nI (min v0 a) from nI_nlt (a := 0) (by omega) (by omega)), if_neg h0]
  by_cases hv : v0 = 0
  · subst hv
    by_cases hx : x < 0
    · exact hsame (hneg hx) (by rw [hl]; exact if_pos rfl)
    · obtain ⟨a, ha, rfl⟩ := nI_of hx
      refine hsame ?_ (by rw [hl]; exact if_pos rfl)
      rw [hnn a rfl ha, if_neg (by omega)]
  · have hl0 : ¬ m.2 4 f = 0 := by
      rw [hl]
      exact nI_ne0 (by omega) (by omega)
    have hz8 : ¬ zOut (nI f) 8 := zo_in (by omega) (by omega)
    have hcl : (nI f).toNatClampNeg = f := nI_clamp (by omega)
    by_cases hx : x < 0
    · refine hsame (hneg hx) ?_
      rw [if_neg hl0]
      simp only [k_Mo_harms_33, if_pos hx, k_Mo_harms_46, if_neg hz8, hcl, hl, if_neg (z_ltz (show v0 < 2 ^ 31 by omega)), k_Mo_harms_70, ↓reduceIte]
    · obtain ⟨a, ha, rfl⟩ := nI_of hx
      have h70 : k_Mo_harms_33 (nI f) l2 l3 (nI a) m = k_Mo_harms_70 (nI f) l2 l3 (nI (min v0 a)) m := by
        simp only [k_Mo_harms_33, if_neg hx, k_Mo_harms_46, if_neg hz8, hcl, hl]
        by_cases hva : v0 < a
        · rw [if_pos (nI_lt hva ha), Nat.min_eq_left (by omega)]
        · rw [if_neg (nI_nlt (by omega) (by omega)), Nat.min_eq_right (by omega)]
      by_cases h0 : 0 < min v0 a
      · obtain ⟨w, hw⟩ : ∃ w, w = min v0 a := ⟨_, rfl⟩
        rw [← hw] at h70 h0
        have hwv : w ≤ v0 := by omega
        have hcl2 := hnn a rfl ha
        rw [← hw, if_pos h0] at hcl2
        have hj1 : zRJ b j (upd m.1 17 (m.1 17 + nI w) 14) (va_up m.2 4 (upd (m.2 4) f (nI (v0 - w))) 13) := by
          rw [zu_n (by decide), zup_n (by decide)]
          exact hj
        obtain ⟨j1, m2, e1, e2, hj2, f1⟩ := r_note (k := 1) (f := f) (v := w) (m := (upd m.1 17 (m.1 17 + nI w), va_up m.2 4 (upd (m.2 4) f (nI (v0 - w))))) hj1 (by omega) (by omega) (by omega) (by omega)
        have f2 := zFrC_j f1
        have hc2 : zRC F c (m2.1 16) (m2.2 15) := by
          rw [f1.1 16 (by decide), f1.2 15 (by decide)]
          dsimp only
          rw [zu_n (by decide), zup_n (by decide)]
          exact hc
        have hd2 : m2.2 4 f = nI (v0 - w) := by
          rw [f1.2 4 (by decide)]
          dsimp only
          rw [zup_s, zu_s]
        have e3 : k_Mo_harms_70 (nI f) l2 l3 (nI w) m = k_Mo_harms_112 (nI f) l2 l3 zFu (nI w) 0 m2 := by
          simp only [k_Mo_harms_70, if_neg (nI_ne0 h0 (show w < 2 ^ 31 by omega)), if_neg hz8, hcl, hl, pk_sub hwv]
          rw [z_1, e2, Option.bind_some]
        have hfin : ∀ j' c' m', zFrC m2 m' → zRJ (b + 1 + 384) j' (m'.1 14) (m'.2 13) → zRC F c' (m'.1 16) (m'.2 15) → zRI (b + 385) F j' c' (upd t.1 (f * 13 + 2) (nI (v0 - w)), t.2) (upd fi 3 (fi 3 + nI w)) m' ∧ zFrF m m' := fun j' c' m' f3 r1 r2 => by
          have f4 := zFrC_tr f2 f3
          refine ⟨⟨r1, r2, zRF_fr f4 (zRF_life hr hf _ (zu_n (by decide))), ?_, ?_, ?_⟩, fun i a1 a2 a3 a4 => ?_, fun i a1 a2 a3 a4 => ?_⟩
          · rw [f4.2 0 (by decide) (by decide)]
            dsimp only
            rw [zup_n (by decide)]
            exact zFR_life hR hf g5 (by omega) g2 g3
          · rw [zu_s, f4.1 17 (by decide) (by decide), h3]
            dsimp only
            rw [zu_s]
          · rw [zu_n (by decide), f4.1 18 (by decide) (by decide), h4]
            dsimp only
            rw [zu_n (by decide)]
          · rw [f4.1 i a1 a2]
            exact zu_n a3
          · rw [f4.2 i a1 a2]
            exact zup_n a3
        rw [show k_Jo_write j 1 (nI f) (nI w) = some j1 from e1, Option.bind_some] at hcl2
        by_cases h1 : w = v0
        · obtain ⟨j', c', m', e4, e5, f3, r1, r2⟩ := r_endAll (p := p) l2 l3 (nI w) hj2 (by omega) hc2 (show f < 8 by omega) (by rw [hd2, h1, Nat.sub_self]; rfl)
          rw [if_pos h1, e4, Option.bind_some] at hcl2
          obtain ⟨r3, r4⟩ := hfin j' c' m' f3 r1 r2
          exact ⟨_, _, _, _, _, m', hcl2, by rw [if_neg hl0, h70, e3, e5], r3, r4⟩
        · obtain ⟨j', c', m', e4, e5, f3, r1, r2⟩ := r_endHarmed (p := p) l2 l3 (nI w) hj2 (by omega) hc2 (show f < 8 by omega) (by rw [hd2]; exact nI_ne0 (by omega) (by omega))
          rw [if_neg h1, e4, Option.bind_some] at hcl2
          obtain ⟨r3, r4⟩ := hfin j' c' m' f3 r1 r2
          exact ⟨_, _, _, _, _, m', hcl2, by rw [if_neg hl0, h70, e3, e5], r3, r4⟩
      · refine hsame ?_ ?_
        · rw [hnn a rfl ha, if_neg h0]
        · rw [if_neg hl0, h70, show min v0 a = 0 by omega]
          simp only [k_Mo_harms_70, nI_0, ↓reduceIte]
