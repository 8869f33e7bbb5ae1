def zuv (T : Nat → Int32) : Nat → Nat
  | 0 => 0
  | n + 1 => zuv T n + (if T n < 0 then 1 else 0)
theorem zuv_cg {T T' : Nat → Int32} : ∀ n, (∀ c, c < n → T' c = T c) → zuv T' n = zuv T n := by
  intro n
  induction n with
  | zero => exact fun _ => rfl
  | succ n ih =>
    intro h
    simp only [zuv]
    rw [ih fun c hc => h c (by omega), h n (by omega)]
theorem zuv_upd {T : Nat → Int32} {c : Nat} {v : Int32} (hv : ¬ v < 0) (ht : T c < 0) : ∀ n, c < n → zuv (upd T c v) n + 1 = zuv T n := by
  intro n
  induction n with
  | zero => exact fun h => absurd h (by omega)
  | succ n ih =>
    intro h
    simp only [zuv]
    by_cases hc : c = n
    · subst hc
      rw [zu_s, if_neg hv, if_pos ht, zuv_cg c fun k hk => zu_n (by omega)]
    · rw [zu_n (by omega)]
      have := ih (by omega)
      omega
theorem zuv_all {T : Nat → Int32} : ∀ n, (∀ c, c < n → T c = -1) → zuv T n = n := by
  intro n
  induction n with
  | zero => exact fun _ => rfl
  | succ n ih =>
    intro h
    simp only [zuv]
    rw [ih fun c hc => h c (by omega), h n (by omega), if_pos (by decide)]
def zWc (F f i : Nat) (t : zsT) (m : zsM) (c : Nat) : Prop := m.2 0 c = 1 ∨ ∃ g, g < i ∧ t.1 (g * 13 + 1) = nI c ∧ m.2 1 g ≠ m.2 1 f ∧ m.2 4 g ≠ 0
theorem r_held {F f c : Nat} {t : zsT} {m : zsM} (hr : zRF F t m) (hR : zFR F t (m.2 0)) (hc : c < 100) : ∃ v, k_Mo_isHeld m (nI c) (m.2 1 f) = some v ∧ ((v = 0 ∧ ¬ ∃ g, g < F ∧ t.1 (g * 13 + 1) = nI c ∧ m.2 1 g ≠ m.2 1 f ∧ m.2 4 g ≠ 0) ∨ (v = 1 ∧ ∃ g, g < F ∧ t.1 (g * 13 + 1) = nI c ∧ m.2 1 g ≠ m.2 1 f ∧ m.2 4 g ≠ 0)) := by
  have hF := hr.1
  unfold k_Mo_isHeld
  rcases r_stand (c3 := (((fun _ => 0), 0), ((fun _ => 0), 0), (fun _ => 0))) (fi := fun _ => 0) (nI c) hr with ⟨r, r1, r2, -, r4⟩ | ⟨r1, -, r3⟩
  · have hu : ∀ g, g < F → t.1 (g * 13 + 1) = nI c → g = r := fun g hg he => hR.2 g r hg r1 (he.trans r2.symm)
    rw [r4, Option.bind_some, if_neg (z_ltz (by omega)), if_neg (zo_in (by omega) (by omega)), nI_clamp (by omega)]
    by_cases h1 : m.2 1 r = m.2 1 f
    · rw [if_pos h1]
      refine ⟨0, rfl, Or.inl ⟨rfl, ?_⟩⟩
      rintro ⟨g, g1, g2, g3, g4⟩
      rw [hu g g1 g2] at g3
      exact g3 h1
    · rw [if_neg h1, mo_isDown (by omega), Option.bind_some]
      by_cases h2 : m.2 4 r = 0
      · rw [if_pos h2, if_neg (by decide)]
        refine ⟨0, rfl, Or.inl ⟨rfl, ?_⟩⟩
        rintro ⟨g, g1, g2, g3, g4⟩
        rw [hu g g1 g2] at g4
        exact g4 h2
      · rw [if_neg h2, if_pos rfl]
        exact ⟨1, rfl, Or.inr ⟨rfl, r, r1, r2, h1, h2⟩⟩
  · rw [r3, Option.bind_some, if_pos (by decide)]
    refine ⟨0, rfl, Or.inl ⟨rfl, ?_⟩⟩
    rintro ⟨g, g1, g2, -, -⟩
    exact r1 g g1 g2
theorem r_markF_lp {F f : Nat} {c3 : zsC} {t o w pw : zsT} {fi ei : Nat → Int32} {rs : Int32} {m : zsM} (hr : zRF F t m) (hR : zFR F t (m.2 0)) (hf : f < F) (Q : Nat → Int32) (n : Int32) : ∀ (d i fu : Nat) (S : Nat → Int32), i + d = F → d < fu → (∀ c, c < 100 → (zWc F f i t m c → S c = -2) ∧ (¬ zWc F f i t m c → S c = -1)) → ∃ S', k_Wa_markClosed_44 (((c3, t, fi), o, ei), w, pw, rs) (nI f) fu (nI i) (S, Q, n) = some (S', Q, n) ∧ ∀ c, c < 100 → (zWc F f F t m c → S' c = -2) ∧ (¬ zWc F f F t m c → S' c = -1) := by
  intro d
  induction d with
  | zero =>
    intro i fu S hi hf2 h
    obtain ⟨fu, rfl, -⟩ := z_fuS hf2
    have hF := hr.1
    have : i = F := by omega
    subst this
    refine ⟨S, ?_, h⟩
    simp only [k_Wa_markClosed_44, k_Fi_size, k_Ta_used, Option.bind_some, hr.2.1]
    rw [if_neg (nI_nlt (by omega) (by omega))]
  | succ d ih =>
    intro i fu S hi hf2 h
    obtain ⟨fu, rfl, hf3⟩ := z_fuS hf2
    have hF := hr.1
    have hi' : i < F := by omega
    obtain ⟨-, ⟨v, v1, v2, v3⟩, -⟩ := hR.1 i hi'
    have hat : k_Ta_get 13 104 t (nI i) 1 = some (nI v) := by
      rw [← v2]
      exact fi_get (q := 1) hr.2.1 hF hi' (by omega)
    have hfo : k_Fi_areFoes (c3, t, fi) (nI f) (nI i) = some (if m.2 1 f = m.2 1 i then 0 else 1) := fi_foes hr hf hi'
    have hdn := fi_isDown (c3 := c3) (fi := fi) hr hi'
    have hsame : ¬ (m.2 1 i ≠ m.2 1 f ∧ m.2 4 i ≠ 0) → ∀ c, zWc F f (i + 1) t m c ↔ zWc F f i t m c := fun hn c => by
      unfold zWc
      constructor
      · rintro (h1 | ⟨g, g1, g2, g3, g4⟩)
        · exact Or.inl h1
        · by_cases hgi : g = i
          · subst hgi
            exact absurd ⟨g3, g4⟩ hn
          · exact Or.inr ⟨g, by omega, g2, g3, g4⟩
      · rintro (h1 | ⟨g, g1, g2⟩)
        · exact Or.inl h1
        · exact Or.inr ⟨g, by omega, g2⟩
    simp only [k_Wa_markClosed_44, k_Fi_size, k_Ta_used, k_Fi_at, Option.bind_some, hr.2.1]
    rw [if_pos (nI_lt hi' (by omega)), hat, Option.bind_some, hfo, Option.bind_some]
    by_cases h1 : m.2 1 f = m.2 1 i
    · rw [if_pos h1, Option.bind_some, if_pos rfl]
      unfold k_Wa_markClosed_94
      rw [if_pos rfl, nI_1]
      refine ih (i + 1) fu S (by omega) (by omega) fun c hc => ?_
      rw [hsame (fun q => q.1 h1.symm)]
      exact h c hc
    · rw [if_neg h1, Option.bind_some, if_neg (show ¬ (1 : Int32) = 0 by decide), hdn]
      by_cases h2 : m.2 4 i = 0
      · rw [if_pos h2, Option.bind_some, if_neg (show ¬ (1 : Int32) = 0 by decide)]
        unfold k_Wa_markClosed_94
        rw [if_pos rfl, nI_1]
        refine ih (i + 1) fu S (by omega) (by omega) fun c hc => ?_
        rw [hsame (fun q => q.2 h2)]
        exact h c hc
      · rw [if_neg h2, Option.bind_some, if_pos rfl]
        unfold k_Wa_markClosed_94
        rw [if_neg (show ¬ (1 : Int32) = 0 by decide), if_neg (z_ltz (by omega)), if_pos (show nI v < 100 from nI_lt (b := 100) v1 (by omega)), if_neg (zo_in v1 (by omega)), nI_clamp (by omega), nI_1]
        refine ih (i + 1) fu (upd S v (-2)) (by omega) (by omega) fun c hc => ?_
        by_cases hcv : c = v
        · subst hcv
          rw [zu_s]
          refine ⟨fun _ => rfl, fun q => absurd (Or.inr ⟨i, by omega, v2, fun e => h1 e.symm, h2⟩) q⟩
        · rw [zu_n hcv]
          have hiff : zWc F f (i + 1) t m c ↔ zWc F f i t m c := by
            unfold zWc
            constructor
            · rintro (h1 | ⟨g, g1, g2, g3, g4⟩)
              · exact Or.inl h1
              · by_cases hgi : g = i
                · subst hgi
                  rw [v2] at g2
                  exact absurd ((nI_eq (by omega) (by omega)).1 g2).symm hcv
                · exact Or.inr ⟨g, by omega, g2, g3, g4⟩
            · rintro (h1 | ⟨g, g1, g2⟩)
              · exact Or.inl h1
              · exact Or.inr ⟨g, by omega, g2⟩
          rw [hiff]
          exact h c hc
theorem r_mark_lp {F f : Nat} {c3 : zsC} {t o w pw : zsT} {fi ei : Nat → Int32} {rs : Int32} {m : zsM} (hr : zRF F t m) (hR : zFR F t (m.2 0)) (hw : zRW w (m.2 0)) (hf : f < F) (Q : Nat → Int32) (n : Int32) : ∀ (d i fu : Nat) (S : Nat → Int32), i + d = 100 → d < fu → (∀ c, c < i → (m.2 0 c = 1 → S c = -2) ∧ (m.2 0 c ≠ 1 → S c = -1)) → ∃ S', k_Wa_markClosed_2 (((c3, t, fi), o, ei), w, pw, rs) (nI f) fu (nI i) (S, Q, n) = some (S', Q, n) ∧ ∀ c, c < 100 → (zWc F f F t m c → S' c = -2) ∧ (¬ zWc F f F t m c → S' c = -1) := by
  intro d
  induction d with
  | zero =>
    intro i fu S hi hf2 h
    obtain ⟨fu, rfl, -⟩ := z_fuS hf2
    have : i = 100 := by omega
    subst this
    obtain ⟨S', e, h'⟩ := r_markF_lp (c3 := c3) (o := o) (w := w) (pw := pw) (fi := fi) (ei := ei) (rs := rs) hr hR hf Q n F 0 zFu S (by omega) (z_fu (by have := hr.1; omega)) (fun c hc => by
      unfold zWc
      refine ⟨?_, fun q => (h c hc).2 fun e => q (Or.inl e)⟩
      rintro (h1 | ⟨g, g1, -⟩)
      · exact (h c hc).1 h1
      · omega)
    refine ⟨S', ?_, h'⟩
    simp only [k_Wa_markClosed_2]
    rw [if_neg (by decide)]
    exact e
  | succ d ih =>
    intro i fu S hi hf2 h
    obtain ⟨fu, rfl, hf3⟩ := z_fuS hf2
    have hi' : i < 100 := by omega
    have hg : k_Ta_get 1 100 w (nI i) 0 = some (m.2 0 i) := wl_get hw hi'
    simp only [k_Wa_markClosed_2]
    rw [if_pos (show nI i < 100 from nI_lt (b := 100) hi' (by omega)), hg, Option.bind_some]
    by_cases h1 : m.2 0 i = 1
    · rw [if_pos h1]
      unfold k_Wa_markClosed_35
      rw [if_neg (zo_in hi' (by omega)), nI_clamp (by omega), nI_1]
      refine ih (i + 1) fu (upd S i (-2)) (by omega) (by omega) fun c hc => ?_
      by_cases hci : c = i
      · subst hci
        rw [zu_s]
        exact ⟨fun _ => rfl, fun q => absurd h1 q⟩
      · rw [zu_n hci]
        exact h c (by omega)
    · rw [if_neg h1]
      unfold k_Wa_markClosed_35
      rw [if_neg (zo_in hi' (by omega)), nI_clamp (by omega), nI_1]
      refine ih (i + 1) fu (upd S i (-1)) (by omega) (by omega) fun c hc => ?_
      by_cases hci : c = i
      · subst hci
        rw [zu_s]
        exact ⟨fun q => absurd q h1, fun _ => rfl⟩
      · rw [zu_n hci]
        exact h c (by omega)
