theorem r_init_lp {f v : Nat} {m0 : zsM} (hf : f < 8) (hv : v < 100) (hcell : m0.2 2 f = nI v) : ∀ (d i fu : Nat) (a : Nat → Nat → Int32), i + d = 100 → d < fu → (∀ x, x ≠ 31 → a x = m0.2 x) → (∀ c, c < i → a 31 c = -1) → ∃ a', k_Mo_findSteps_7 fu (nI f) (nI i) (m0.1, a) = k_Mo_findSteps_54 zFu (nI f) 1 0 (m0.1, va_up (va_up a' 31 (upd (a' 31) v (nI 0))) 32 (upd (a' 32) 0 (nI v))) ∧ (∀ x, x ≠ 31 → a' x = m0.2 x) ∧ ∀ c, c < 100 → a' 31 c = -1 := by
  intro d
  induction d with
  | zero =>
    intro i fu a hi h1 ha h2
    obtain ⟨fu, rfl, -⟩ := z_fuS h1
    have : i = 100 := by omega
    subst this
    refine ⟨a, ?_, ha, h2⟩
    have h0 : a 2 f = nI v := (congrFun (ha 2 (by decide)) f).trans hcell
    simp only [k_Mo_findSteps_7, if_neg (zo_in hf (show 8 < 2 ^ 31 by omega)), nI_clamp (show f < 2 ^ 31 by omega), h0, if_neg (zo_in hv (show 100 < 2 ^ 31 by omega)), nI_clamp (show v < 2 ^ 31 by omega)]
    rw [if_neg (by decide), if_neg (by decide)]
    rfl
  | succ d ih =>
    intro i fu a hi h1 ha h2
    obtain ⟨fu, rfl, h1'⟩ := z_fuS h1
    obtain ⟨a', e1, e2, e3⟩ := ih (i + 1) fu (va_up a 31 (upd (a 31) i (-1))) (by omega) (by omega) (fun x hx => by rw [zup_n hx]; exact ha x hx) (fun c hc => by
      rw [zup_s]
      by_cases hci : c = i
      · subst hci
        exact zu_s
      · rw [zu_n hci]
        exact h2 c (by omega))
    refine ⟨a', ?_, e2, e3⟩
    rw [← e1]
    simp only [k_Mo_findSteps_7]
    rw [if_pos (show nI i < 100 from nI_lt (b := 100) (by omega) (by omega)), if_neg (zo_in (by omega) (by omega)), nI_clamp (by omega), nI_1]
theorem r_measure {F f goal : Nat} {c3 : zsC} {t o w pw : zsT} {fi ei : Nat → Int32} {rs : Int32} {m : zsM} (W : zsW) (hr : zRF F t m) (hR : zFR F t (m.2 0)) (hw : zRW w (m.2 0)) (hf : f < F) (hcur : k_Mo_current m = some (nI f)) (hg : goal < 100) (hgC : ¬ zWc F f F t m goal) : ∃ v W' a, k_Wa_measure (((c3, t, fi), o, ei), w, pw, rs) W (nI f) (nI goal) = some (v, W') ∧ k_Mo_findSteps m = some (m.1, a) ∧ (∀ x, x ≠ 31 → x ≠ 32 → a x = m.2 x) ∧ ((v = -5 ∧ a 31 goal < 0) ∨ ∃ n, n ≤ 100 ∧ v = nI n ∧ a 31 goal = nI n) := by
  have hF := hr.1
  obtain ⟨-, ⟨v0, v1, v2, v3⟩, -⟩ := hR.1 f hf
  have hcell : m.2 2 f = nI v0 := ((hr.2.2.2 f hf).2.1).trans v2
  have hC0 : ¬ zWc F f F t m v0 := by
    rintro (h | ⟨g, g1, g2, g3, -⟩)
    · rw [v3] at h
      exact absurd h (by decide)
    · have : g = f := hR.2 g f g1 hf (g2.trans v2.symm)
      rw [this] at g3
      exact g3 rfl
  obtain ⟨S, e1, e2⟩ := r_mark_lp (c3 := c3) (o := o) (pw := pw) (fi := fi) (ei := ei) (rs := rs) hr hR hw hf W.2.1 0 100 0 zFu W.1 (by omega) (z_fu (by omega)) (fun c hc => by omega)
  obtain ⟨a1, e3, e4, e5⟩ := r_init_lp (m0 := m) (show f < 8 by omega) v1 hcell 100 0 zFu m.2 (by omega) (z_fu (by omega)) (fun _ _ => rfl) (fun c hc => by omega)
  have hB0 : zBf (zWc F f F t m) S W.2.1 0 (a1 31) (a1 32) := by
    refine ⟨?_, fun k hk => by omega, fun c hc => ⟨fun h => ⟨(e2 c hc).1 h, e5 c hc⟩, fun h => ⟨?_, Or.inl (e5 c hc)⟩⟩⟩
    · rw [zuv_all 100 e5]
    · rw [(e2 c hc).2 h, e5 c hc]
  have hB1 := (zBf_add hB0 v1 hC0 (e5 v0 v1) (n := 0) (Nat.le_refl _)).2
  obtain ⟨S', Q', N', a', g1, g2, g3, g4⟩ := r_bfs (((c3, t, fi), o, ei), w, pw, rs) (nI f) (nI goal) hr hR hf 100 0 zFu zFu (upd S v0 (nI 0)) (upd W.2.1 0 (nI v0)) 1 (va_up (va_up a1 31 (upd (a1 31) v0 (nI 0))) 32 (upd (a1 32) 0 (nI v0))) (by omega) (z_fu (by omega)) (z_fu (by omega)) (fun x hx hx2 => by rw [zup_n hx2, zup_n hx]; exact e4 x hx) (by
    rw [zup_s, zup_n (show 31 ≠ 32 by decide), zup_s]
    exact hB1)
  obtain ⟨q1, q2⟩ := (g4.2.2 goal hg).2 hgC
  have hcls : k_Wa_measure (((c3, t, fi), o, ei), w, pw, rs) W (nI f) (nI goal) = k_Wa_measure_64 (((c3, t, fi), o, ei), w, pw, rs) (nI f) (nI goal) (S', Q', nI N') := by
    unfold k_Wa_measure k_Wa_markClosed k_Fi_at
    dsimp only
    rw [show k_Wa_markClosed_2 (((c3, t, fi), o, ei), w, pw, rs) (nI f) zFu 0 (W.1, W.2.1, 0) = some (S, W.2.1, 0) from e1, Option.bind_some, show k_Ta_get 13 104 t (nI f) 1 = some (t.1 (f * 13 + 1)) from fi_get (q := 1) hr.2.1 hF hf (by omega), Option.bind_some, Option.bind_some, v2, show k_Wa_reach (S, W.2.1, 0) (nI v0) 0 = _ from wa_reach (N := 0) v1 (Or.inl (by omega)), Option.bind_some, if_pos ((e2 v0 v1).2 hC0)]
    exact g1
  have hmo : k_Mo_findSteps m = some (m.1, a') := by
    unfold k_Mo_findSteps
    rw [hcur, Option.bind_some]
    exact (show k_Mo_findSteps_7 zFu (nI f) 0 m = _ from e3).trans g2
  have h64 : k_Wa_measure_64 (((c3, t, fi), o, ei), w, pw, rs) (nI f) (nI goal) (S', Q', nI N') = if S' goal < 0 then some (-5, (S', Q', nI N')) else some (S' goal, (S', Q', nI N')) := by
    simp only [k_Wa_measure_64, k_Wa_measure_91, if_neg (z_ltz (show goal < 2 ^ 31 by omega)), if_pos (show nI goal < 100 from nI_lt (b := 100) hg (by omega)), if_neg (zo_in hg (show 100 < 2 ^ 31 by omega)), nI_clamp (show goal < 2 ^ 31 by omega)]
    rw [if_pos trivial, if_neg (show ¬ (1 : Int32) = 0 by decide)]
  rw [h64, q1] at hcls
  have hN : N' ≤ 100 := by have := g4.1; omega
  rcases q2 with q2 | ⟨n, n1, n2⟩
  · have hneg : a' 31 goal < 0 := by
      rw [q2]
      decide
    rw [if_pos hneg] at hcls
    exact ⟨-5, _, a', hcls, hmo, g3, Or.inl ⟨rfl, hneg⟩⟩
  · rw [if_neg (by rw [n2]; exact z_ltz (by omega)), n2] at hcls
    exact ⟨nI n, _, a', hcls, hmo, g3, Or.inr ⟨n, by omega, rfl, n2⟩⟩
