theorem zRI_c {b b' F : Nat} {j j' c c' t : zsT} {fi : Nat → Int32} {m m' : zsM} (h : zRI b F j c t fi m) (h1 : zRJ b' j' (m'.1 14) (m'.2 13)) (h2 : zRC F c' (m'.1 16) (m'.2 15)) (hf : zFrC m m') : zRI b' F j' c' t fi m' := by
  obtain ⟨r1, r2, r3, r4, r5, r6⟩ := h
  refine ⟨h1, h2, zRF_fr hf r3, ?_, ?_, ?_⟩
  · rw [hf.2 0 (by decide) (by decide)]
    exact r4
  · rw [hf.1 17 (by decide) (by decide)]
    exact r5
  · rw [hf.1 18 (by decide) (by decide)]
    exact r6
theorem r_start {b F M n r : Nat} {j c t o : zsT} {p fi ei : Nat → Int32} {m : zsM} (h : zRI b F j c t fi m) (ho : zRO M o m) (hMF : M ≤ F) (hn : n < M) (h5 : ei 5 = nI n) (h20 : m.1 20 = nI n) (h4 : ei 4 = nI r) (h22 : m.1 22 = nI r) (hr : r < 1000) (hb : b + 6000 < 2 ^ 27) : ∃ j' c' p' t' fi' m', k_En_startTurn (((j, c, p), t, fi), o, ei) = some (((j', c', p'), t', fi'), o, upd (upd (upd ei 6 0) 7 0) 9 (ei 9 + 1)) ∧ k_Mo_beginsTurn m = some m' ∧ zRI (b + 3500) F j' c' t' fi' m' ∧ m'.1 23 = 0 ∧ m'.1 24 = 0 ∧ m'.1 27 = m.1 27 + 1 ∧ (∀ i, i ≠ 14 → i ≠ 16 → i ≠ 17 → i ≠ 18 → i ≠ 23 → i ≠ 24 → i ≠ 27 → m'.1 i = m.1 i) ∧ ∀ i, i ≠ 13 → i ≠ 15 → i ≠ 4 → i ≠ 8 → i ≠ 30 → m'.2 i = m.2 i := by
  have hF := h.2.2.1.1
  have C : ∀ (f3 : zsF) (e : Nat → Int32), e 5 = nI n → ∃ f, f < M ∧ o.1 n = nI f ∧ k_En_current (f3, o, e) = some (nI f) ∧ k_Mo_current m = some (nI f) := fun f3 e he => r_cur ho hn he h20
  obtain ⟨f, hf, hof, c1, c2⟩ := C ((j, c, p), t, fi) ei h5
  have C' : ∀ (f3 : zsF) (e : Nat → Int32), e 5 = nI n → k_En_current (f3, o, e) = some (nI f) := fun f3 e he => by
    obtain ⟨f', hf', hof', c1', -⟩ := C f3 e he
    rw [hof] at hof'
    rw [c1', hof']
  obtain ⟨ei', hei⟩ : ∃ ei', ei' = upd (upd (upd ei 6 0) 7 0) 9 (ei 9 + 1) := ⟨_, rfl⟩
  have hei5 : ei' 5 = nI n := by
    rw [hei, zu_n (by decide), zu_n (by decide), zu_n (by decide), h5]
  obtain ⟨n0, hn0⟩ : ∃ n0, n0 = upd (upd (upd m.1 23 0) 24 0) 27 (m.1 27 + 1) := ⟨_, rfl⟩
  have h1 : zRI b F j c t fi (n0, m.2) := zRI_cg h (fun i hi => by
    rw [hn0]
    dsimp only
    rw [zu_n (by omega), zu_n (by omega), zu_n (by omega)]) (fun i _ => rfl)
  obtain ⟨j1, m1, e1, e2, h2, f1⟩ := r_noteI (k := 8) (f := f) (v := r) h1 (by omega) (by omega) (by omega) hr
  obtain ⟨j2, c2', m2, e3, e4, f2, r1, r2⟩ := r_sourceTurn (p := p) (show f < 8 by omega) h2.1 (by omega) h2.2.1
  have h3 : zRI (b + 1 + 384) F j2 c2' t fi m2 := zRI_c h2 r1 r2 f2
  obtain ⟨j3, c3, p3, t3, fi3, m3, e5, e6, h4', f3, f4⟩ := r_suffer (p := p) h3 (by omega) (show f < F by omega)
  refine ⟨j3, c3, p3, t3, fi3, m3, ?_, ?_, zRI_mono h4' (by omega), ?_, ?_, ?_, fun i a1 a2 a3 a4 a5 a6 a7 => ?_, fun i a1 a2 a3 a4 a5 => ?_⟩
  · unfold k_En_startTurn
    dsimp only
    rw [zu_n (show 9 ≠ 6 by decide), zu_n (show 4 ≠ 7 by decide), zu_n (show 4 ≠ 6 by decide), ← hei, C' _ _ hei5, Option.bind_some, h4, show k_Jo_write j 8 (nI f) (nI r) = some j1 from e1, Option.bind_some, C' _ _ hei5, Option.bind_some, e3, Option.bind_some, C' _ _ hei5, Option.bind_some, e5, Option.bind_some]
  · unfold k_Mo_beginsTurn
    rw [c2, Option.bind_some]
    rw [zu_n (show 27 ≠ 23 by decide), zu_n (show 22 ≠ 24 by decide), zu_n (show 22 ≠ 23 by decide), ← hn0, h22, show k_Mo_notes (n0, m.2) 8 (nI f) (nI r) = some m1 from e2, Option.bind_some, e4, Option.bind_some]
    exact e6
  · rw [f3 23 (by decide) (by decide) (by decide) (by decide), f2.1 23 (by decide) (by decide), f1.1 23 (by decide), hn0]
    rfl
  · rw [f3 24 (by decide) (by decide) (by decide) (by decide), f2.1 24 (by decide) (by decide), f1.1 24 (by decide), hn0]
    rfl
  · rw [f3 27 (by decide) (by decide) (by decide) (by decide), f2.1 27 (by decide) (by decide), f1.1 27 (by decide), hn0]
    rfl
  · rw [f3 i a1 a2 a3 a4, f2.1 i a1 a2, f1.1 i a1, hn0]
    dsimp only
    rw [zu_n a7, zu_n a6, zu_n a5]
  · rw [f4 i a1 a2 a3 a4 a5, f2.2 i a1 a2, f1.2 i a1]
theorem r_leave {b F M n r : Nat} {j c t o : zsT} {p fi ei : Nat → Int32} {m : zsM} (h : zRI b F j c t fi m) (ho : zRO M o m) (hMF : M ≤ F) (hn : n < M) (h5 : ei 5 = nI n) (h20 : m.1 20 = nI n) (h4 : ei 4 = nI r) (h22 : m.1 22 = nI r) (hr : r < 1000) (hb : b + 6000 < 2 ^ 27) : ∃ j' c' ei' m' n' r', k_En_leaveTurn (((j, c, p), t, fi), o, ei) = some (((j', c', p), t, fi), o, ei') ∧ ((k_Mo_current m).bind fun o3 => (k_Mo_notes m 9 o3 (m.1 22)).bind fun o4 => (k_Mo_counts o4 o3 0).bind fun o5 => k_Mo_passesTurn o5) = k_Mo_beginsTurn m' ∧ zRI (b + 385) F j' c' t fi m' ∧ n' < M ∧ ei' 5 = nI n' ∧ m'.1 20 = nI n' ∧ ei' 4 = nI r' ∧ m'.1 22 = nI r' ∧ r ≤ r' ∧ r' ≤ r + 1 ∧ (∀ x, x ≠ 4 → x ≠ 5 → ei' x = ei x) ∧ (∀ i, i ≠ 14 → i ≠ 16 → i ≠ 20 → i ≠ 22 → m'.1 i = m.1 i) ∧ ∀ i, i ≠ 13 → i ≠ 15 → m'.2 i = m.2 i := by
  have hF := h.2.2.1.1
  have C : ∀ (f3 : zsF) (e : Nat → Int32), e 5 = nI n → ∃ f, f < M ∧ o.1 n = nI f ∧ k_En_current (f3, o, e) = some (nI f) ∧ k_Mo_current m = some (nI f) := fun f3 e he => r_cur ho hn he h20
  obtain ⟨f, hf, hof, c1, c2⟩ := C ((j, c, p), t, fi) ei h5
  have C' : ∀ (f3 : zsF) (e : Nat → Int32), e 5 = nI n → k_En_current (f3, o, e) = some (nI f) := fun f3 e he => by
    obtain ⟨f', hf', hof', c1', -⟩ := C f3 e he
    rw [hof] at hof'
    rw [c1', hof']
  obtain ⟨j1, m1, e1, e2, h2, f1⟩ := r_noteI (k := 9) (f := f) (v := r) h (by omega) (by omega) (by omega) hr
  obtain ⟨j2, c2', m2, e3, e4, f2, r1, r2⟩ := r_turnEnd (p := p) (show f < 8 by omega) h2.1 (by omega) h2.2.1
  have h3 : zRI (b + 1 + 384) F j2 c2' t fi m2 := zRI_c h2 r1 r2 f2
  have g20 : m2.1 20 = nI n := by
    rw [f2.1 20 (by decide) (by decide), f1.1 20 (by decide), h20]
  have g21 : m2.1 21 = nI M := by
    rw [f2.1 21 (by decide) (by decide), f1.1 21 (by decide), ho.2.2.1]
  have g22 : m2.1 22 = nI r := by
    rw [f2.1 22 (by decide) (by decide), f1.1 22 (by decide), h22]
  have hcls : k_En_leaveTurn (((j, c, p), t, fi), o, ei) = if n + 1 < M then some (((j2, c2', p), t, fi), o, upd ei 5 (nI (n + 1))) else some (((j2, c2', p), t, fi), o, upd (upd (upd ei 5 (nI (n + 1))) 5 0) 4 (nI (r + 1))) := by
    unfold k_En_leaveTurn
    dsimp only
    rw [C' _ _ h5, Option.bind_some, h4, show k_Jo_write j 9 (nI f) (nI r) = some j1 from e1, Option.bind_some, C' _ _ h5, Option.bind_some, e3, Option.bind_some]
    simp only [k_Ta_used, Option.bind_some, ho.2.1, h5, nI_1, zu_n (show 4 ≠ 5 by decide), h4]
    by_cases hnM : n + 1 < M
    · rw [if_pos hnM, if_pos (nI_lt hnM (by have := ho.1; omega))]
    · rw [if_neg hnM, if_neg (nI_nlt (by omega) (by have := ho.1; omega))]
  have hmod : ((k_Mo_current m).bind fun o3 => (k_Mo_notes m 9 o3 (m.1 22)).bind fun o4 => (k_Mo_counts o4 o3 0).bind fun o5 => k_Mo_passesTurn o5) = k_Mo_passesTurn m2 := by
    rw [c2, Option.bind_some, h22, show k_Mo_notes m 9 (nI f) (nI r) = some m1 from e2, Option.bind_some, e4, Option.bind_some]
  have hps : k_Mo_passesTurn m2 = if n + 1 = M then k_Mo_beginsTurn (upd (upd (upd m2.1 20 (nI (n + 1))) 20 0) 22 (nI (r + 1)), m2.2) else k_Mo_beginsTurn (upd m2.1 20 (nI (n + 1)), m2.2) := by
    simp only [k_Mo_passesTurn, g20, g21, nI_1, zu_n (show 22 ≠ 20 by decide), g22, zbs]
    by_cases hnM : n + 1 = M
    · rw [if_pos hnM, if_pos (by rw [hnM])]
    · rw [if_neg hnM, if_neg (fun e => hnM ((nI_eq (by omega) (by have := ho.1; omega)).1 e))]
  by_cases hnM : n + 1 < M
  · rw [if_pos hnM] at hcls
    rw [if_neg (by omega)] at hps
    have q20 : (upd m2.1 20 (nI (n + 1)), m2.2).1 20 = nI (n + 1) := by
      dsimp only
      exact zu_s
    have q22 : (upd m2.1 20 (nI (n + 1)), m2.2).1 22 = nI r := by
      dsimp only
      rw [zu_n (by decide)]
      exact g22
    have q4 : upd ei 5 (nI (n + 1)) 4 = nI r := by
      rw [zu_n (by decide)]
      exact h4
    refine ⟨j2, c2', _, _, n + 1, r, hcls, hmod.trans hps, zRI_cg h3 (fun i hi => zu_n (by omega)) (fun i _ => rfl), hnM, zu_s, q20, q4, q22, by omega, by omega, fun x hx hx2 => zu_n hx2, fun i a1 a2 a3 a4 => ?_, fun i a1 a2 => (f2.2 i a1 a2).trans (f1.2 i a1)⟩
    exact (zu_n a3).trans ((f2.1 i a1 a2).trans (f1.1 i a1))
  · rw [if_neg hnM] at hcls
    rw [if_pos (by omega)] at hps
    have q22 : (upd (upd (upd m2.1 20 (nI (n + 1))) 20 0) 22 (nI (r + 1)), m2.2).1 22 = nI (r + 1) := by
      dsimp only
      exact zu_s
    refine ⟨j2, c2', _, _, 0, r + 1, hcls, hmod.trans hps, zRI_cg h3 (fun i hi => ?_) (fun i _ => rfl), by omega, ?_, ?_, zu_s, q22, by omega, by omega, fun x hx hx2 => ?_, fun i a1 a2 a3 a4 => ?_, fun i a1 a2 => (f2.2 i a1 a2).trans (f1.2 i a1)⟩
    · dsimp only
      rw [zu_n (by omega), zu_n (by omega), zu_n (by omega)]
    · rw [zu_n (by decide), zu_s]
      rfl
    · dsimp only
      rw [zu_n (by decide), zu_s]
      rfl
    · rw [zu_n hx, zu_n hx2, zu_n hx2]
    · dsimp only
      rw [zu_n a4, zu_n a3, zu_n a3, f2.1 i a1 a2, f1.1 i a1]
theorem r_behind_lp {M g cu : Nat} {f3 : zsF} {ei : Nat → Int32} (l1 : Int32) (hM : M ≤ 8) (hg : g < M) (hcu : cu < M) : ∀ (d q fu fu' : Nat) (A : Nat → Int32) (m : zsM), q + d = g → d < fu → d < fu' → (∀ k, k < M → k ≠ q → m.2 10 k = A k ∧ ∃ f, f < M ∧ A k = nI f) → (∀ f, f < M → f ≠ cu → ∃ k, k < M ∧ k ≠ q ∧ A k = nI f) → m.1 21 = nI M → ∃ A' a, k_En_putBehind_17 l1 fu (nI cu) (nI g) (nI q) (f3, (A, nI M), ei) = some (f3, (A', nI M), ei) ∧ k_Mo_delay_87 l1 fu' (nI cu) (nI g) (nI q) m = ((k_Mo_beginsTurn (m.1, a)).bind fun o12 => (k_Mo_current o12).bind fun o13 => some (o13, o12)) ∧ zRO M (A', nI M) (m.1, a) ∧ ∀ x, x ≠ 10 → a x = m.2 x := by
  intro d
  induction d with
  | zero =>
    intro q fu fu' A m hq hf hf' h1 h2 h21
    obtain ⟨fu, rfl, -⟩ := z_fuS hf
    obtain ⟨fu', rfl, -⟩ := z_fuS hf'
    have hqg : q = g := by omega
    subst hqg
    refine ⟨upd A q (nI cu), va_up m.2 10 (upd (m.2 10) q (nI cu)), ?_, ?_, ⟨hM, rfl, h21, fun k hk => ?_, fun f hf => ?_⟩, fun x hx => zup_n hx⟩
    · simp only [k_En_putBehind_17]
      rw [if_neg (nI_nlt (by omega) (by omega)), or_set hM hg, Option.bind_some]
    · simp only [k_Mo_delay_87]
      rw [if_neg (nI_nlt (by omega) (by omega)), if_neg (zo_in (by omega) (by omega)), nI_clamp (by omega)]
    · dsimp only
      rw [zup_s]
      by_cases hkq : k = q
      · subst hkq
        rw [zu_s, zu_s]
        exact ⟨rfl, cu, hcu, rfl⟩
      · rw [zu_n hkq, zu_n hkq]
        exact h1 k hk hkq
    · dsimp only
      by_cases hfc : f = cu
      · subst hfc
        exact ⟨q, hg, zu_s⟩
      · obtain ⟨k, k1, k2, k3⟩ := h2 f hf hfc
        exact ⟨k, k1, by rw [zu_n k2]; exact k3⟩
  | succ d ih =>
    intro q fu fu' A m hq hf hf' h1 h2 h21
    obtain ⟨fu, rfl, hf2⟩ := z_fuS hf
    obtain ⟨fu', rfl, hf2'⟩ := z_fuS hf'
    have hlt : nI q < nI g := nI_lt (by omega) (by omega)
    obtain ⟨b1, g1, b2, b3⟩ := h1 (q + 1) (by omega) (by omega)
    obtain ⟨y, c1, c2, c3'⟩ := ta_copyRow (w := 1) (n := 8) (F := M) (i := q + 1) (j := q) (x := (A, nI M)) rfl (by omega) (by omega) (by omega) (by omega) (by omega)
    have y1 : y q = A (q + 1) := by
      have := c2 0 (by omega)
      rw [Nat.mul_one, Nat.mul_one, Nat.add_zero, Nat.add_zero] at this
      exact this
    have y2 : ∀ k, k ≠ q → y k = A k := fun k hk => c3' k (by omega)
    obtain ⟨A', a, d1, d2, d3, d4⟩ := ih (q + 1) fu fu' y (m.1, va_up m.2 10 (upd (m.2 10) q (m.2 10 (q + 1)))) (by omega) (by omega) (by omega) (fun k hk hkq => by
      dsimp only
      rw [zup_s]
      by_cases hk1 : k = q
      · subst hk1
        rw [zu_s, y1]
        exact ⟨b1, g1, b2, b3⟩
      · rw [zu_n hk1, y2 k hk1]
        exact h1 k hk hk1) (fun f hf hfc => by
      obtain ⟨k, k1, k2, k3⟩ := h2 f hf hfc
      by_cases hkq : k = q + 1
      · subst hkq
        exact ⟨q, by omega, by omega, by rw [y1]; exact k3⟩
      · exact ⟨k, k1, hkq, by rw [y2 k k2]; exact k3⟩) h21
    refine ⟨A', a, ?_, ?_, d3, fun x hx => (d4 x hx).trans (zup_n hx)⟩
    · simp only [k_En_putBehind_17]
      rw [if_pos hlt, nI_1, show k_Ta_copyRow 1 8 (A, nI M) (nI (q + 1)) (nI q) = some (y, nI M) from c1, Option.bind_some]
      exact d1
    · simp only [k_Mo_delay_87]
      rw [if_pos hlt, nI_1, if_neg (zo_in (by omega) (by omega)), if_neg (zo_in (by omega) (by omega)), nI_clamp (by omega), nI_clamp (by omega)]
      exact d2
theorem r_close_lp {F : Nat} {c3 : zsC} {o : zsT} {fi ei : Nat → Int32} (l1 : Int32) : ∀ (d i fu fu' : Nat) (t : zsT) (m : zsM), i + d = F → d < fu → d < fu' → zRF F t m → zFR F t (m.2 0) → ∃ t' a, k_En_close_15 fu (nI i) ((c3, t, fi), o, ei) = ((k_Co_endOfEncounter c3).bind fun o4 => some ((o4, t', fi), o, ei)) ∧ k_Mo_finish_86 fu' l1 (nI i) m = some (l1, (m.1, a)) ∧ zRF F t' (m.1, a) ∧ zFR F t' (a 0) ∧ ∀ x, x ≠ 7 → a x = m.2 x := by
  intro d
  induction d with
  | zero =>
    intro i fu fu' t m hi h1 h2 hr hR
    obtain ⟨fu, rfl, -⟩ := z_fuS h1
    obtain ⟨fu', rfl, -⟩ := z_fuS h2
    have hF := hr.1
    refine ⟨t, m.2, ?_, ?_, hr, hR, fun _ _ => rfl⟩
    · simp only [k_En_close_15, k_Fi_size, k_Ta_used, Option.bind_some, hr.2.1]
      rw [if_neg (nI_nlt (by omega) (by omega))]
    · simp only [k_Mo_finish_86, hr.2.2.1]
      rw [if_neg (nI_nlt (by omega) (by omega))]
  | succ d ih =>
    intro i fu fu' t m hi h1 h2 hr hR
    obtain ⟨fu, rfl, h1'⟩ := z_fuS h1
    obtain ⟨fu', rfl, h2'⟩ := z_fuS h2
    have hF := hr.1
    have hi' : i < F := by omega
    obtain ⟨t', a, e1, e2, e3, e4, e5⟩ := ih (i + 1) fu fu' (upd t.1 (i * 13 + 6) (-5), t.2) (m.1, va_up m.2 7 (upd (m.2 7) i (-5))) (by omega) (by omega) (by omega) (zRF_score hr hi' _ rfl) (by
      dsimp only
      rw [zup_n (by decide)]
      exact zFR_score hR (by decide) (by decide))
    refine ⟨t', a, ?_, ?_, e3, e4, fun x hx => (e5 x hx).trans (zup_n hx)⟩
    · rw [← e1]
      simp only [k_En_close_15, k_Fi_size, k_Ta_used, k_Fi_put, Option.bind_some, hr.2.1]
      rw [if_pos (nI_lt hi' (by omega)), z_6, fi_set hr.2.1 hF hi' (by omega), Option.bind_some, nI_1, hr.2.1]
      rfl
    · rw [← e2]
      simp only [k_Mo_finish_86, hr.2.2.1]
      rw [if_pos (nI_lt hi' (by omega)), if_neg (zo_in (by omega) (by omega)), nI_clamp (by omega), nI_1]
