theorem mo_isDown {m : zsM} {f : Nat} (hf : f < 8) : k_Mo_isDown m (nI f) = some (if m.2 4 f = 0 then 1 else 0) := by
  unfold k_Mo_isDown
  rw [if_neg (zo_in hf (by omega)), nI_clamp (by omega)]
  split <;> rfl
theorem r_bare {b F f : Nat} {j c t : zsT} {p fi : Nat → Int32} {m : zsM} (x : Int32) (h : zRI b F j c t fi m) (hb : b + 1000 < 2 ^ 27) (hf : f < F) : ∃ v j' c' t' fi' m', k_Fi_lose ((j, c, p), t, fi) (nI f) x = some (v, ((j', c', p), t', fi')) ∧ k_Mo_harms m (nI f) x 1 = some (v, m') ∧ zRI (b + 385) F j' c' t' fi' m' ∧ zFrF m m' := by
  obtain ⟨v, j', c', t', fi', m', e1, e2, r⟩ := r_lose (p := p) x 1 x h hb hf
  refine ⟨v, j', c', t', fi', m', e1, ?_, r⟩
  rw [← e2]
  unfold k_Mo_harms
  rw [mo_isDown (by have := h.2.2.1.1; omega), Option.bind_some]
  by_cases hd : m.2 4 f = 0
  · rw [if_pos hd, if_pos hd, if_neg (by decide)]
  · rw [if_neg hd, if_neg hd, if_pos rfl, if_neg (by decide)]
theorem r_hurt {b F f : Nat} {j c t : zsT} {p fi : Nat → Int32} {m : zsM} (x : Int32) (h : zRI b F j c t fi m) (hb : b + 1000 < 2 ^ 27) (hf : f < F) : ∃ v j' c' t' fi' m', k_Fi_hurt ((j, c, p), t, fi) (nI f) x = some (v, ((j', c', p), t', fi')) ∧ k_Mo_harms m (nI f) x 0 = some (v, m') ∧ zRI (b + 385) F j' c' t' fi' m' ∧ zFrF m m' := by
  obtain ⟨L, ht, hm, hg⟩ := h.2.1
  obtain ⟨v4, a1, a2⟩ := r_sumOf (j := j) (p := p) (nI f) 4 ht hm (zGd_lr hg)
  obtain ⟨v2, a3, a4⟩ := r_sumOf (j := j) (p := p) (nI f) 2 ht hm (zGd_lr hg)
  obtain ⟨v, j', c', t', fi', m', e1, e2, r⟩ := r_lose (p := p) x 0 (x + v4 - v2) h hb hf
  refine ⟨v, j', c', t', fi', m', ?_, ?_, r⟩
  · unfold k_Fi_hurt
    rw [a1, Option.bind_some, a3, Option.bind_some, e1]
    rfl
  · rw [← e2]
    unfold k_Mo_harms
    rw [mo_isDown (by have := h.2.2.1.1; omega), Option.bind_some]
    by_cases hd : m.2 4 f = 0
    · rw [if_pos hd, if_pos hd, if_neg (by decide)]
    · rw [if_neg hd, if_neg hd, if_pos rfl, if_pos rfl, a2, Option.bind_some, a4, Option.bind_some]
theorem r_suffer_lp {F f q : Nat} {p : Nat → Int32} (hf : f < F) (hq : q ≤ 8) : ∀ (d k b fu fu' : Nat) (j c t : zsT) (fi : Nat → Int32) (m : zsM), k + d = q → d < fu → d < fu' → zRI b F j c t fi m → b + 1000 + 385 * d < 2 ^ 27 → (∀ i, i < q → p i = m.2 30 i) → ∃ j' c' t' fi' m', k_Fi_sufferPoisons_11 (nI f) fu (nI q) (nI k) ((j, c, p), t, fi) = some ((j', c', p), t', fi') ∧ k_Mo_beginsTurn_99 fu' (nI f) (nI q) (nI k) m = some m' ∧ zRI (b + 385 * d) F j' c' t' fi' m' ∧ zFrF m m' := by
  intro d
  induction d with
  | zero =>
    intro k b fu fu' j c t fi m hk h1 h2 h hb hp
    obtain ⟨fu, rfl, -⟩ := z_fuS h1
    obtain ⟨fu', rfl, -⟩ := z_fuS h2
    refine ⟨j, c, t, fi, m, ?_, ?_, h, zFrF_rfl m⟩
    · unfold k_Fi_sufferPoisons_11
      rw [if_neg (nI_nlt (by omega) (by omega))]
    · unfold k_Mo_beginsTurn_99
      rw [if_neg (nI_nlt (by omega) (by omega))]
  | succ d ih =>
    intro k b fu fu' j c t fi m hk h1 h2 h hb hp
    obtain ⟨fu, rfl, h1'⟩ := z_fuS h1
    obtain ⟨fu', rfl, h2'⟩ := z_fuS h2
    have hb1 : b + 1000 < 2 ^ 27 := Nat.lt_of_le_of_lt (Nat.le_add_right _ _) hb
    have hb2 : b + 385 + 1000 + 385 * d < 2 ^ 27 := by
      rw [show b + 385 + 1000 + 385 * d = b + 1000 + 385 * (d + 1) by omega]
      exact hb
    obtain ⟨L, ht, hm, hg⟩ := h.2.1
    obtain ⟨v, hv, a1, a2⟩ := r_poisonBy (j := j) (p := p) (y := nI f) ht hm (zGd_lr hg) (show k < 8 by omega)
    obtain ⟨u, j1, c1, t1, fi1, m1, e1, e2, r1, f1⟩ := r_bare (p := p) (nI v) h hb1 hf
    obtain ⟨j', c', t', fi', m', e3, e4, r2, f2⟩ := ih (k + 1) (b + 385) fu fu' j1 c1 t1 fi1 m1 (by omega) (by omega) (by omega) r1 hb2 (fun i hi => by
      rw [f1.2 30 (by decide) (by decide) (by decide) (by decide)]
      exact hp i hi)
    refine ⟨j', c', t', fi', m', ?_, ?_, ?_, zFrF_tr f1 f2⟩
    · unfold k_Fi_sufferPoisons_11
      rw [if_pos (nI_lt (by omega) (by omega))]
      dsimp only
      rw [a1, Option.bind_some, e1, Option.bind_some, nI_1]
      exact e3
    · unfold k_Mo_beginsTurn_99
      rw [if_pos (nI_lt (by omega) (by omega)), if_neg (zo_in (by omega) (by omega)), nI_clamp (by omega), ← hp k (by omega), a2, Option.bind_some, e2, Option.bind_some, nI_1]
      exact e4
    · rw [show b + 385 * (d + 1) = b + 385 + 385 * d by omega]
      exact r2
theorem zFR_i {F : Nat} {t t' : zsT} {wall : Nat → Int32} (h : zFR F t wall) (e : t'.1 = t.1) : zFR F t' wall := by
  unfold zFR
  rw [e]
  exact h
theorem r_suffer {b F f : Nat} {j c t : zsT} {p fi : Nat → Int32} {m : zsM} (h : zRI b F j c t fi m) (hb : b + 5000 < 2 ^ 27) (hf : f < F) : ∃ j' c' p' t' fi' m', k_Fi_sufferPoisons ((j, c, p), t, fi) (nI f) = some ((j', c', p'), t', fi') ∧ k_Mo_beginsTurn_46 zFu (nI f) 0 0 m = some m' ∧ zRI (b + 3080) F j' c' t' fi' m' ∧ (∀ i, i ≠ 14 → i ≠ 16 → i ≠ 17 → i ≠ 18 → m'.1 i = m.1 i) ∧ ∀ i, i ≠ 13 → i ≠ 15 → i ≠ 4 → i ≠ 8 → i ≠ 30 → m'.2 i = m.2 i := by
  have hF := h.2.2.1.1
  obtain ⟨q, p', a, e1, e2, e3, hq, e4⟩ := r_list (j := j) (p := p) h.2.1 (show f < 8 by omega)
  have h' : zRI b F j c t fi (m.1, a) := by
    obtain ⟨r1, r2, ⟨r3, r4, r5, r6⟩, r7, r8, r9⟩ := h
    refine ⟨?_, ?_, ⟨r3, r4, r5, ?_⟩, ?_, r8, r9⟩
    · dsimp only
      rw [e3 13 (by decide)]
      exact r1
    · dsimp only
      rw [e3 15 (by decide)]
      exact r2
    · dsimp only
      rw [e3 1 (by decide), e3 2 (by decide), e3 3 (by decide), e3 4 (by decide), e3 5 (by decide), e3 6 (by decide), e3 7 (by decide), e3 8 (by decide), e3 9 (by decide)]
      exact r6
    · dsimp only
      rw [e3 0 (by decide)]
      exact r7
  obtain ⟨j', c', t', fi', m', e5, e6, r2, f2⟩ := r_suffer_lp (p := p') hf hq q 0 b zFu zFu j c t fi (m.1, a) (by omega) (z_fu (by omega)) (z_fu (by omega)) h' (by omega) e4
  refine ⟨j', c', p', t', fi', m', ?_, e2.trans e6, ?_, fun i a1 a2 a3 a4 => f2.1 i a1 a2 a3 a4, fun i a1 a2 a3 a4 a5 => (f2.2 i a1 a2 a3 a4).trans (e3 i a5)⟩
  · unfold k_Fi_sufferPoisons
    rw [e1, Option.bind_some]
    exact e5
  · obtain ⟨r1, r3⟩ := r2
    exact ⟨zRJ_mono r1 (by omega), r3⟩
