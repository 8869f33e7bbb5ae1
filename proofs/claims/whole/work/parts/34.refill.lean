theorem zu_id (f : Nat → Int32) (k : Nat) : upd f k (f k) = f := by
  funext j
  by_cases h : j = k
  · subst h
    exact zu_s
  · exact zu_n h
theorem r_refill {b F f r : Nat} {j c t : zsT} {p fi : Nat → Int32} {m : zsM} (h : zRI b F j c t fi m) (hb : b + 1000 < 2 ^ 27) (hf : f < F) (hr3 : r < 3) : ∃ j' t' m', k_Fi_refill ((j, c, p), t, fi) (nI f) (nI r) = some ((j', c, p), t', fi) ∧ k_Mo_refills m (nI f) (nI r) = some m' ∧ zRI (b + 1) F j' c t' fi m' ∧ zFrF m m' := by
  obtain ⟨hj, hc, hr, hR, h3, h4⟩ := h
  have hF := hr.1
  obtain ⟨-, -, -, -, -, -, hA⟩ := hR.1 f hf
  obtain ⟨v, w, a1, a2, a3, a4⟩ := hA r hr3
  obtain ⟨-, -, -, -, -, -, -, hM⟩ := hr.2.2.2 f hf
  obtain ⟨b1, b2⟩ := hM r hr3
  rw [a3] at b1
  rw [a4] at b2
  have G := fun q hq => fi_get (q := q) hr.2.1 hF hf hq
  have hz : ¬ zOut (nI (3 * f + r)) 24 := zo_in (by omega) (by omega)
  have hcl : (nI (3 * f + r)).toNatClampNeg = 3 * f + r := nI_clamp (by omega)
  have hcls : k_Fi_refill ((j, c, p), t, fi) (nI f) (nI r) = if 0 < w - v then (k_Jo_write j 6 (nI f) (nI (10 * r + (w - v)))).bind fun o5 => some ((o5, c, p), (upd t.1 (f * 13 + (7 + r)) (nI w), t.2), fi) else some ((j, c, p), t, fi) := by
    unfold k_Fi_refill
    dsimp only
    rw [z_10, nI_add, G (10 + r) (by omega), Option.bind_some, z_7, nI_add, G (7 + r) (by omega), Option.bind_some, a3, a4, pk_sub a1, fi_set hr.2.1 hF hf (by omega), pk_mul, nI_add]
    by_cases h0 : 0 < w - v
    · rw [if_pos (show (0 : Int32) < nI (w - v) from nI_lt (a := 0) h0 (by omega)), if_pos h0, Option.bind_some]
    · rw [if_neg (show ¬ (0 : Int32) < nI (w - v) from nI_nlt (a := 0) (by omega) (by omega)), if_neg h0]
  have hmo : k_Mo_refills m (nI f) (nI r) = if 0 < w - v then k_Mo_notes (m.1, va_up m.2 8 (upd (m.2 8) (3 * f + r) (nI w))) 6 (nI f) (nI (10 * r + (w - v))) else some (m.1, va_up m.2 8 (upd (m.2 8) (3 * f + r) (nI w))) := by
    unfold k_Mo_refills
    simp only [z_3, z_10, pk_mul, nI_add, if_neg hz, hcl, b1, b2, pk_sub a1, zbs]
    by_cases h0 : 0 < w - v
    · rw [if_pos (show (0 : Int32) < nI (w - v) from nI_lt (a := 0) h0 (by omega)), if_pos h0]
    · rw [if_neg (show ¬ (0 : Int32) < nI (w - v) from nI_nlt (a := 0) (by omega) (by omega)), if_neg h0]
  by_cases h0 : 0 < w - v
  · rw [if_pos h0] at hcls hmo
    have hj1 : zRJ b j (m.1 14) (va_up m.2 8 (upd (m.2 8) (3 * f + r) (nI w)) 13) := by
      rw [zup_n (by decide)]
      exact hj
    obtain ⟨j1, m2, e1, e2, hj2, f1⟩ := r_note (k := 6) (f := f) (v := 10 * r + (w - v)) (m := (m.1, va_up m.2 8 (upd (m.2 8) (3 * f + r) (nI w)))) hj1 (by omega) (by omega) (by omega) (by omega)
    have f2 := zFrC_j f1
    rw [show k_Jo_write j 6 (nI f) (nI (10 * r + (w - v))) = some j1 from e1, Option.bind_some] at hcls
    refine ⟨_, _, m2, hcls, hmo.trans e2, ⟨hj2, ?_, zRF_fr f2 (zRF_amt hr hf hr3 _ rfl), ?_, ?_, ?_⟩, fun i a1 a2 a3 a4 => f1.1 i a1, fun i a1 a2 a3 a4 => ?_⟩
    · rw [f1.1 16 (by decide), f1.2 15 (by decide)]
      dsimp only
      rw [zup_n (by decide)]
      exact hc
    · rw [f1.2 0 (by decide)]
      dsimp only
      rw [zup_n (by decide)]
      exact zFR_amt hR hf hr3 a4 (Nat.le_refl _) a2
    · rw [f1.1 17 (by decide)]
      exact h3
    · rw [f1.1 18 (by decide)]
      exact h4
    · rw [f1.2 i a1]
      exact zup_n a4
  · rw [if_neg h0] at hcls hmo
    have hx := zRF_amt (r := r) (x := t.1 (f * 13 + (7 + r))) hr hf hr3 m.1 rfl
    rw [zu_id] at hx
    rw [a3, show v = w by omega] at hx
    refine ⟨_, _, _, hcls, hmo, ⟨?_, ?_, hx, ?_, h3, h4⟩, fun i a1 a2 a3 a4 => rfl, fun i a1 a2 a3 a4 => zup_n a4⟩
    · dsimp only
      rw [zup_n (by decide)]
      exact zRJ_mono hj (by omega)
    · dsimp only
      rw [zup_n (by decide)]
      exact hc
    · dsimp only
      rw [zup_n (by decide)]
      exact hR
