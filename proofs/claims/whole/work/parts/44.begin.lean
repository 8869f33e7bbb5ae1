theorem r_open_lp {F : Nat} {c3 : zsC} {fi ei : Nat → Int32} (l : Int32) : ∀ (d i fu fu' : Nat) (z : Int32) (t o : zsT) (m : zsM), i + d = F → d < fu → d < fu' → zRF F t m → zFR F t (m.2 0) → m.1 25 = z → o.2 = nI i → (∀ k, k < i → m.2 10 k = o.1 k ∧ ∃ f, f < i ∧ o.1 k = nI f) → (∀ f, f < i → ∃ k, k < i ∧ o.1 k = nI f) → ∃ t' o' m', k_En_open_4 l fu z (nI i) ((c3, t, fi), o, ei) = some ((c3, t', fi), o', upd (upd (upd ei 4 1) 5 0) 8 (ei 8 + 1)) ∧ k_Mo_begin_39 l fu' (nI i) m = ((k_Mo_beginsTurn (upd (upd (upd (upd (upd m'.1 21 (nI F)) 19 1) 20 0) 22 1) 26 (m'.1 26 + 1), m'.2)).bind fun o5 => (k_Mo_current o5).bind fun o6 => some (o6, o5)) ∧ zRF F t' m' ∧ zFR F t' (m'.2 0) ∧ o'.2 = nI F ∧ (∀ k, k < F → m'.2 10 k = o'.1 k ∧ ∃ f, f < F ∧ o'.1 k = nI f) ∧ (∀ f, f < F → ∃ k, k < F ∧ o'.1 k = nI f) ∧ (∀ x, x ≠ 25 → m'.1 x = m.1 x) ∧ ∀ x, x ≠ 7 → x ≠ 10 → m'.2 x = m.2 x := by
  intro d
  induction d with
  | zero =>
    intro i fu fu' z t o m hi h1 h2 hr hR hz ho g1 g2
    obtain ⟨fu, rfl, -⟩ := z_fuS h1
    obtain ⟨fu', rfl, -⟩ := z_fuS h2
    have hF := hr.1
    have hiF : i = F := by omega
    subst hiF
    refine ⟨t, o, m, ?_, ?_, hr, hR, ho, g1, g2, fun _ _ => rfl, fun _ _ _ => rfl⟩
    · simp only [k_En_open_4, k_Fi_size, k_Ta_used, Option.bind_some, hr.2.1]
      rw [if_neg (nI_nlt (by omega) (by omega)), zu_n (show 8 ≠ 4 by decide)]
    · simp only [k_Mo_begin_39, hr.2.2.1]
      rw [if_neg (nI_nlt (by omega) (by omega)), zu_n (show 26 ≠ 20 by decide), zu_n (show 26 ≠ 19 by decide), zu_n (show 26 ≠ 21 by decide)]
  | succ d ih =>
    intro i fu fu' z t o m hi h1 h2 hr hR hz ho g1 g2
    obtain ⟨fu, rfl, h1'⟩ := z_fuS h1
    obtain ⟨fu', rfl, h2'⟩ := z_fuS h2
    have hF := hr.1
    have hi' : i < F := by omega
    have hlt : nI i < nI F := nI_lt hi' (by omega)
    obtain ⟨z', hz'⟩ : ∃ z', z' = z * 1103515245 + 12345 := ⟨_, rfl⟩
    obtain ⟨dr, hdr, ed⟩ := zdraw z'
    obtain ⟨-, -, -, ⟨b1, b2⟩, -, -, -⟩ := hR.1 i hi'
    obtain ⟨-, -, -, -, m5, -, -, -⟩ := hr.2.2.2 i hi'
    obtain ⟨sc, hsc⟩ : ∃ sc, sc = t.1 (i * 13 + 4) + nI (1 + dr) := ⟨_, rfl⟩
    have hdt := nI_toInt (n := 1 + dr) (by omega)
    have hst : sc.toInt = (t.1 (i * 13 + 4)).toInt + (nI (1 + dr)).toInt := by
      rw [hsc]
      exact zadd_t (by omega) (by omega) (by omega) (by omega)
    have hr1 : zRF F (upd t.1 (i * 13 + 6) sc, t.2) (upd m.1 25 z', va_up m.2 7 (upd (m.2 7) i sc)) := zRF_score hr hi' _ (zu_n (by decide))
    have hR1 : zFR F (upd t.1 (i * 13 + 6) sc, t.2) (m.2 0) := zFR_score hR (by omega) (by omega)
    obtain ⟨y, e1, y1, y2⟩ := ta_app (w := 1) (n := 8) ho (by omega) (by omega) (by omega) (by omega)
    obtain ⟨A', m', d1, d2, d3, d4, d5, d6⟩ := r_ins_lp (c3 := c3) (fi := fi) (ei := ei) l (k_Mo_begin_39 l fu') hR1 hi' i zFu zFu y (upd m.1 25 z', va_up m.2 7 (upd (m.2 7) i sc)) (Nat.le_refl _) (z_fu (by omega)) (z_fu (by omega)) hr1 (fun k hk hki => by
      dsimp only
      rw [zup_n (by decide), y1 k (by omega)]
      exact g1 k (by omega)) (fun f hf => by
      obtain ⟨k, k1, k2⟩ := g2 f hf
      exact ⟨k, by omega, by omega, by rw [y1 k (by omega)]; exact k2⟩)
    have hr2 : zRF F (upd t.1 (i * 13 + 6) sc, t.2) m' := by
      obtain ⟨r1, r2, r3, r4⟩ := hr1
      refine ⟨r1, r2, ?_, ?_⟩
      · rw [d3]
        exact r3
      · rw [d4 1 (by decide), d4 2 (by decide), d4 3 (by decide), d4 4 (by decide), d4 5 (by decide), d4 6 (by decide), d4 7 (by decide), d4 8 (by decide), d4 9 (by decide)]
        exact r4
    obtain ⟨t', o', m'', f1, f2, f3, f4, f5, f6, f7, f8, f9⟩ := ih (i + 1) fu fu' z' (upd t.1 (i * 13 + 6) sc, t.2) (A', nI (i + 1)) m' (by omega) (by omega) (by omega) hr2 (by
      rw [d4 0 (by decide)]
      dsimp only
      rw [zup_n (by decide)]
      exact hR1) (by
      rw [d3]
      dsimp only
      exact zu_s) rfl d5 d6
    refine ⟨t', o', m'', ?_, ?_, f3, f4, f5, f6, f7, fun x hx => ?_, fun x hx hx2 => ?_⟩
    · rw [← f1]
      have hget : k_Ta_get 13 104 t (nI i) 4 = some (t.1 (i * 13 + 4)) := fi_get (q := 4) hr.2.1 hF hi' (by omega)
      have hset : k_Ta_set 13 104 t (nI i) 6 sc = some (upd t.1 (i * 13 + 6) sc, t.2) := fi_set (q := 6) hr.2.1 hF hi' (by omega)
      simp only [k_En_open_4, k_Fi_size, k_Ta_used, k_Fi_at, k_Fi_put, Option.bind_some, hget, ← hz', ed, ← hsc, hset, k_En_insert]
      rw [hr.2.1, if_pos hlt, show k_Ta_append 1 8 o = some (nI i, (y, nI (i + 1))) from e1, Option.bind_some]
      dsimp only
      rw [hr.2.1] at d1
      rw [d1, Option.bind_some, nI_1]
    · rw [← f2, ← d2]
      simp only [k_Mo_begin_39, hr.2.2.1, if_pos hlt, if_neg (zo_in (show i < 8 by omega) (show 8 < 2 ^ 31 by omega)), nI_clamp (show i < 2 ^ 31 by omega), k_Mo_draws, hz, ← hz', ed, Option.bind_some, m5, ← hsc]
    · rw [f8 x hx, d3]
      exact zu_n hx
    · rw [f9 x hx hx2, d4 x hx2]
      exact zup_n hx
