def zBf (C : Nat → Prop) (S Q : Nat → Int32) (N : Nat) (T Q' : Nat → Int32) : Prop := N + zuv T 100 = 100 ∧ (∀ k, k < N → ∃ c, c < 100 ∧ Q k = nI c ∧ Q' k = nI c ∧ ∃ n, n < N ∧ T c = nI n) ∧ ∀ c, c < 100 → (C c → S c = -2 ∧ T c = -1) ∧ (¬ C c → S c = T c ∧ (T c = -1 ∨ ∃ n, n < N ∧ T c = nI n))
theorem zm1_n {n : Nat} (h : n < 2 ^ 31) : (-1 : Int32) ≠ nI n := fun e => by
  have g := nI_toInt h
  rw [← e] at g
  have g2 : (-1 : Int32).toInt = -1 := rfl
  omega
theorem zBf_add {C : Nat → Prop} {S Q T Q' : Nat → Int32} {N c n : Nat} (h : zBf C S Q N T Q') (hc : c < 100) (hC : ¬ C c) (hT : T c = -1) (hn : n ≤ N) : N < 100 ∧ zBf C (upd S c (nI n)) (upd Q N (nI c)) (N + 1) (upd T c (nI n)) (upd Q' N (nI c)) := by
  obtain ⟨h1, h2, h3⟩ := h
  have hN : N ≤ 100 := by omega
  have hz := zuv_upd (T := T) (v := nI n) (z_ltz (by omega)) (by rw [hT]; decide) 100 hc
  refine ⟨by omega, by omega, fun k hk => ?_, fun c' hc' => ⟨fun hC' => ?_, fun hC' => ?_⟩⟩
  · by_cases hkN : k = N
    · subst hkN
      exact ⟨c, hc, zu_s, zu_s, n, by omega, zu_s⟩
    · obtain ⟨c', g1, g2, g3, n', g4, g5⟩ := h2 k (by omega)
      refine ⟨c', g1, by rw [zu_n hkN]; exact g2, by rw [zu_n hkN]; exact g3, n', by omega, ?_⟩
      rw [zu_n, g5]
      intro e
      subst e
      rw [hT] at g5
      exact zm1_n (by omega) g5
  · have hne : c' ≠ c := fun e => hC (e ▸ hC')
    rw [zu_n hne, zu_n hne]
    exact (h3 c' hc').1 hC'
  · by_cases hne : c' = c
    · subst hne
      rw [zu_s, zu_s]
      exact ⟨rfl, Or.inr ⟨n, by omega, rfl⟩⟩
    · rw [zu_n hne, zu_n hne]
      obtain ⟨g1, g2⟩ := (h3 c' hc').2 hC'
      refine ⟨g1, ?_⟩
      rcases g2 with g2 | ⟨n', g3, g4⟩
      · exact Or.inl g2
      · exact Or.inr ⟨n', by omega, g4⟩
theorem wa_nb {cc fu n d : Nat} {x : zsW} (hcc : cc < 100) (hd : d < 4) : k_Wa_reachNeighbors_28 (nI cc) (fu + 1) (nI n) (nI d) x = if zbe cc d = 100 then k_Wa_reachNeighbors_28 (nI cc) fu (nI n) (nI (d + 1)) x else (k_Wa_reach x (nI (zbe cc d)) (nI n)).bind fun o9 => k_Wa_reachNeighbors_28 (nI cc) fu (nI n) (nI (d + 1)) o9 := by
  have m1 : zrem (nI cc) 10 = nI (cc % 10) := z_rem (d := 10) (by omega) (by omega) (by omega)
  have m3 : nI cc / (10 : Int32) = nI (cc / 10) := pk_div (d := 10) (by omega) (by omega) (by omega)
  have hlt : ∀ a : Nat, a < 10 → nI a < (10 : Int32) := fun a ha => nI_lt (b := 10) ha (by omega)
  have hnn : ∀ a : Nat, a < 100 → ¬ nI a < 0 := fun a ha => z_ltz (by omega)
  simp only [k_Wa_reachNeighbors_28]
  rw [if_pos (show nI d < 4 from nI_lt (b := 4) hd (by omega)), m1, m3, nI_1]
  have hd4 : d = 0 ∨ d = 1 ∨ d = 2 ∨ d = 3 := by omega
  rcases hd4 with rfl | rfl | rfl | rfl
  · rw [show k_EL_columnStep (nI 0) = some 1 from rfl, show k_EL_rowStep (nI 0) = some 0 from rfl, Option.bind_some, Option.bind_some, nI_1, Int32.add_zero, if_neg (hnn (cc % 10 + 1) (by omega))]
    by_cases h : cc % 10 + 1 < 10
    · rw [if_pos (hlt _ h), if_neg (hnn (cc / 10) (by omega)), if_pos (hlt (cc / 10) (by omega)), show zbe cc 0 = cc + 1 from by simp only [zbe, ↓reduceIte, h], if_neg (show ¬ cc + 1 = 100 by omega), z_10, pk_mul, nI_add, show 10 * (cc / 10) + (cc % 10 + 1) = cc + 1 by omega]
    · rw [if_neg (show ¬ nI (cc % 10 + 1) < (10 : Int32) from nI_nlt (b := 10) (by omega) (by omega)), show zbe cc 0 = 100 from by simp only [zbe, ↓reduceIte, h], if_pos rfl]
  · rw [show k_EL_columnStep (nI 1) = some 0 from rfl, show k_EL_rowStep (nI 1) = some 1 from rfl, Option.bind_some, Option.bind_some, nI_1, Int32.add_zero, if_neg (hnn _ (by omega)), if_pos (hlt _ (by omega)), if_neg (hnn _ (by omega))]
    by_cases h : cc / 10 + 1 < 10
    · rw [if_pos (hlt _ h), show zbe cc 1 = cc + 10 from by simp [zbe, h], if_neg (show ¬ cc + 10 = 100 by omega), z_10, pk_mul, nI_add, show 10 * (cc / 10 + 1) + cc % 10 = cc + 10 by omega]
    · rw [if_neg (show ¬ nI (cc / 10 + 1) < (10 : Int32) from nI_nlt (b := 10) (by omega) (by omega)), show zbe cc 1 = 100 from by simp [zbe, h], if_pos rfl]
  · rw [show k_EL_columnStep (nI 2) = some (-1) from rfl, show k_EL_rowStep (nI 2) = some 0 from rfl, Option.bind_some, Option.bind_some, Int32.add_zero, if_neg (hnn (cc / 10) (by omega)), if_pos (hlt (cc / 10) (by omega))]
    by_cases h : 0 < cc % 10
    · obtain ⟨q, hq⟩ : ∃ q, cc % 10 = q + 1 := ⟨cc % 10 - 1, by omega⟩
      rw [show zbe cc 2 = cc - 1 from by simp [zbe, h], hq, z_m1, if_neg (hnn _ (by omega)), if_pos (hlt _ (by omega)), if_neg (show ¬ cc - 1 = 100 by omega), z_10, pk_mul, nI_add, show 10 * (cc / 10) + q = cc - 1 by omega]
    · rw [show cc % 10 = 0 by omega, if_pos (show nI 0 + (-1 : Int32) < 0 by decide), show zbe cc 2 = 100 from by simp [zbe, h], if_pos rfl]
  · rw [show k_EL_columnStep (nI 3) = some 0 from rfl, show k_EL_rowStep (nI 3) = some (-1) from rfl, Option.bind_some, Option.bind_some, Int32.add_zero, if_neg (hnn (cc % 10) (by omega)), if_pos (hlt (cc % 10) (by omega))]
    by_cases h : 0 < cc / 10
    · obtain ⟨q, hq⟩ : ∃ q, cc / 10 = q + 1 := ⟨cc / 10 - 1, by omega⟩
      rw [show zbe cc 3 = cc - 10 from by simp [zbe, h], hq, z_m1, if_neg (hnn _ (by omega)), if_pos (hlt _ (by omega)), if_neg (show ¬ cc - 10 = 100 by omega), z_10, pk_mul, nI_add, show 10 * q + cc % 10 = cc - 10 by omega]
    · rw [show cc / 10 = 0 by omega, if_pos (show nI 0 + (-1 : Int32) < 0 by decide), show zbe cc 3 = 100 from by simp [zbe, h], if_pos rfl]
theorem wa_reach {S Q : Nat → Int32} {N c : Nat} {v : Int32} (hc : c < 100) (hN : N < 100 ∨ S c ≠ -1) : k_Wa_reach (S, Q, nI N) (nI c) v = some (if S c = -1 then (upd S c v, upd Q N (nI c), nI (N + 1)) else (S, Q, nI N)) := by
  unfold k_Wa_reach k_Wa_reach_28
  dsimp only
  simp only [if_neg (z_ltz (show c < 2 ^ 31 by omega)), if_pos (show nI c < 100 from nI_lt (b := 100) hc (by omega)), if_neg (zo_in hc (show 100 < 2 ^ 31 by omega)), nI_clamp (show c < 2 ^ 31 by omega)]
  by_cases h : S c = -1
  · rw [if_pos h, if_pos h]
    have hN' : N < 100 := hN.resolve_right fun e => e h
    rw [if_neg (by decide), if_neg (z_ltz (by omega)), if_pos (show nI N < 100 from nI_lt (b := 100) hN' (by omega)), if_neg (zo_in hN' (by omega)), nI_clamp (by omega), nI_1]
  · rw [if_neg h, if_neg h, if_pos trivial]
theorem zRF_cg {F : Nat} {t : zsT} {m m' : zsM} (hr : zRF F t m) (h1 : m'.1 11 = m.1 11) (h2 : ∀ i, i < 10 → m'.2 i = m.2 i) : zRF F t m' := by
  obtain ⟨r3, r4, r5, r6⟩ := hr
  refine ⟨r3, r4, h1.trans r5, ?_⟩
  rw [h2 1 (by omega), h2 2 (by omega), h2 3 (by omega), h2 4 (by omega), h2 5 (by omega), h2 6 (by omega), h2 7 (by omega), h2 8 (by omega), h2 9 (by omega)]
  exact r6
theorem r_bfs_d {F f k cc n : Nat} {t : zsT} {m0 : zsM} (kf : Int32 → Int32 → Int32 → zsM → Option zsM) (hr : zRF F t m0) (hR : zFR F t (m0.2 0)) (hf : f < F) (hcc : cc < 100) : ∀ (d dd fu fu' : Nat) (S Q : Nat → Int32) (N : Nat) (a : Nat → Nat → Int32), dd + d = 4 → d < fu → d < fu' → (∀ x, x ≠ 31 → x ≠ 32 → a x = m0.2 x) → zBf (zWc F f F t m0) S Q N (a 31) (a 32) → k < N → a 32 k = nI cc → n < N → a 31 cc = nI n → ∃ S' Q' N' a', N ≤ N' ∧ k_Wa_reachNeighbors_28 (nI cc) fu (nI (n + 1)) (nI dd) (S, Q, nI N) = some (S', Q', nI N') ∧ k_Mo_findSteps_62 kf fu' (nI f) (nI N) (nI k) (nI dd) (m0.1, a) = kf (nI f) (nI N') (nI (k + 1)) (m0.1, a') ∧ (∀ x, x ≠ 31 → x ≠ 32 → a' x = m0.2 x) ∧ zBf (zWc F f F t m0) S' Q' N' (a' 31) (a' 32) := by
  intro d
  induction d with
  | zero =>
    intro dd fu fu' S Q N a hd h1 h2 ha hB hk hkc hn hnc
    obtain ⟨fu, rfl, -⟩ := z_fuS h1
    obtain ⟨fu', rfl, -⟩ := z_fuS h2
    have : dd = 4 := by omega
    subst this
    refine ⟨S, Q, N, a, Nat.le_refl _, ?_, ?_, ha, hB⟩
    · simp only [k_Wa_reachNeighbors_28]
      rw [if_neg (by decide)]
    · simp only [k_Mo_findSteps_62]
      rw [if_neg (by decide), nI_1]
  | succ d ih =>
    intro dd fu fu' S Q N a hd h1 h2 ha hB hk hkc hn hnc
    obtain ⟨fu, rfl, h1'⟩ := z_fuS h1
    obtain ⟨fu', rfl, h2'⟩ := z_fuS h2
    have hF := hr.1
    have hN : N ≤ 100 := by have := hB.1; omega
    have hdd : dd < 4 := by omega
    have hrm : zRF F t (m0.1, a) := zRF_cg hr rfl fun i hi => ha i (by omega) (by omega)
    have hRm : zFR F t (a 0) := by
      rw [ha 0 (by decide) (by decide)]
      exact hR
    have hm : k_Mo_findSteps_62 kf (fu' + 1) (nI f) (nI N) (nI k) (nI dd) (m0.1, a) = if zbe cc dd = 100 then k_Mo_findSteps_62 kf fu' (nI f) (nI N) (nI k) (nI (dd + 1)) (m0.1, a) else if a 31 (zbe cc dd) < 0 then (if a 0 (zbe cc dd) = 1 then k_Mo_findSteps_62 kf fu' (nI f) (nI N) (nI k) (nI (dd + 1)) (m0.1, a) else (k_Mo_isHeld (m0.1, a) (nI (zbe cc dd)) (a 1 f)).bind fun o9 => if o9 = 0 then (if zOut (nI N) 100 then none else k_Mo_findSteps_62 kf fu' (nI f) (nI (N + 1)) (nI k) (nI (dd + 1)) (m0.1, va_up (va_up a 31 (upd (a 31) (zbe cc dd) (nI (n + 1)))) 32 (upd (a 32) N (nI (zbe cc dd))))) else k_Mo_findSteps_62 kf fu' (nI f) (nI N) (nI k) (nI (dd + 1)) (m0.1, a)) else k_Mo_findSteps_62 kf fu' (nI f) (nI N) (nI k) (nI (dd + 1)) (m0.1, a) := by
      have hc4 : nI dd < 4 := nI_lt (b := 4) hdd (by omega)
      have hzk : ¬ zOut (nI k) 100 := zo_in (by omega) (by omega)
      have hkk : (nI k).toNatClampNeg = k := nI_clamp (by omega)
      have hNN : (nI N).toNatClampNeg = N := nI_clamp (by omega)
      have hzf : ¬ zOut (nI f) 8 := zo_in (by omega) (by omega)
      have hff : (nI f).toNatClampNeg = f := nI_clamp (by omega)
      have hzc : ¬ zOut (nI cc) 100 := zo_in hcc (by omega)
      have hcl : (nI cc).toNatClampNeg = cc := nI_clamp (by omega)
      simp only [k_Mo_findSteps_62, if_pos hc4, if_neg hzk, hkk, hkc, mo_beside cc hcc dd hdd, Option.bind_some, nI_1, if_neg hzf, hff, if_neg hzc, hcl, hnc, hNN]
      rcases (zbe_le (d := dd) hcc).2 with h | h
      · rw [if_pos h, if_pos (by decide), if_pos h]
      · have hzb : ¬ zOut (nI (zbe cc dd)) 100 := zo_in h (by omega)
        have hbl : (nI (zbe cc dd)).toNatClampNeg = zbe cc dd := nI_clamp (by omega)
        rw [if_neg (show ¬ zbe cc dd = 100 by omega), if_neg (show ¬ zbe cc dd = 100 by omega)]
        simp only [if_neg (z_ltz (show zbe cc dd < 2 ^ 31 by omega)), if_neg hzb, hbl]
    rw [wa_nb hcc hdd, hm]
    rcases (zbe_le (d := dd) hcc).2 with h | h
    · rw [if_pos h, if_pos h]
      exact ih (dd + 1) fu fu' S Q N a (by omega) (by omega) (by omega) ha hB hk hkc hn hnc
    · rw [if_neg (show ¬ zbe cc dd = 100 by omega), if_neg (show ¬ zbe cc dd = 100 by omega)]
      obtain ⟨c, hc⟩ : ∃ c, c = zbe cc dd := ⟨_, rfl⟩
      rw [← hc] at h ⊢
      obtain ⟨v, v1, v2⟩ := r_held (f := f) (c := c) hrm hRm h
      have hrest := ih (dd + 1) fu fu' S Q N a (by omega) (by omega) (by omega) ha hB hk hkc hn hnc
      by_cases hC : zWc F f F t m0 c
      · obtain ⟨b1, b2⟩ := (hB.2.2 c h).1 hC
        rw [wa_reach h (Or.inr (by rw [b1]; decide)), Option.bind_some, if_neg (show ¬ S c = -1 by rw [b1]; decide), if_pos (show a 31 c < 0 by rw [b2]; decide)]
        by_cases hw : a 0 c = 1
        · rw [if_pos hw]
          exact hrest
        · rw [if_neg hw, v1, Option.bind_some]
          rcases v2 with ⟨w1, w2⟩ | ⟨w1, w2⟩
          · refine absurd ?_ w2
            rcases hC with h5 | h5
            · rw [ha 0 (by decide) (by decide)] at hw
              exact absurd h5 hw
            · dsimp only
              rw [ha 1 (by decide) (by decide), ha 4 (by decide) (by decide)]
              exact h5
          · rw [w1, if_neg (by decide)]
            exact hrest
      · obtain ⟨b1, b2⟩ := (hB.2.2 c h).2 hC
        rcases b2 with b2 | ⟨n', b2, b3⟩
        · have hadd := zBf_add hB h hC b2 (n := n + 1) (by omega)
          rw [wa_reach h (Or.inl hadd.1), Option.bind_some, if_pos (b1.trans b2), if_pos (show a 31 c < 0 by rw [b2]; decide), if_neg, v1, Option.bind_some]
          · rcases v2 with ⟨w1, w2⟩ | ⟨w1, w2⟩
            · rw [w1, if_pos rfl, if_neg (zo_in hadd.1 (by omega))]
              have hne : cc ≠ c := fun e => by
                rw [e, b2] at hnc
                exact zm1_n (by omega) hnc
              obtain ⟨S', Q', N', a', g1, g2, g3, g4, g5⟩ := ih (dd + 1) fu fu' (upd S c (nI (n + 1))) (upd Q N (nI c)) (N + 1) (va_up (va_up a 31 (upd (a 31) c (nI (n + 1)))) 32 (upd (a 32) N (nI c))) (by omega) (by omega) (by omega) (fun x hx hx2 => by rw [zup_n hx2, zup_n hx]; exact ha x hx hx2) (by
                rw [zup_s, zup_n (show 31 ≠ 32 by decide), zup_s]
                exact hadd.2) (by omega) (by
                rw [zup_s, zu_n (by omega)]
                exact hkc) (by omega) (by
                rw [zup_n (show 31 ≠ 32 by decide), zup_s, zu_n hne]
                exact hnc)
              exact ⟨S', Q', N', a', by omega, g2, g3, g4, g5⟩
            · refine absurd (Or.inr ?_) hC
              dsimp only at w2
              rw [ha 1 (by decide) (by decide), ha 4 (by decide) (by decide)] at w2
              exact w2
          · intro e
            rw [ha 0 (by decide) (by decide)] at e
            exact hC (Or.inl e)
        · have hSn : S c ≠ -1 := by
            rw [b1, b3]
            exact (zm1_n (by omega)).symm
          rw [wa_reach h (Or.inr hSn), Option.bind_some, if_neg hSn, if_neg (show ¬ a 31 c < 0 by rw [b3]; exact z_ltz (by omega))]
          exact hrest
theorem r_bfs {F f : Nat} {t : zsT} {m0 : zsM} (y : zsS) (l2 l3 : Int32) (hr : zRF F t m0) (hR : zFR F t (m0.2 0)) (hf : f < F) : ∀ (d k fu fu' : Nat) (S Q : Nat → Int32) (N : Nat) (a : Nat → Nat → Int32), k + d = 100 → d < fu → d < fu' → (∀ x, x ≠ 31 → x ≠ 32 → a x = m0.2 x) → zBf (zWc F f F t m0) S Q N (a 31) (a 32) → ∃ S' Q' N' a', k_Wa_measure_28 y l2 l3 fu (nI k) (S, Q, nI N) = k_Wa_measure_64 y l2 l3 (S', Q', nI N') ∧ k_Mo_findSteps_54 fu' (nI f) (nI N) (nI k) (m0.1, a) = some (m0.1, a') ∧ (∀ x, x ≠ 31 → x ≠ 32 → a' x = m0.2 x) ∧ zBf (zWc F f F t m0) S' Q' N' (a' 31) (a' 32) := by
  intro d
  induction d with
  | zero =>
    intro k fu fu' S Q N a hd h1 h2 ha hB
    obtain ⟨fu, rfl, -⟩ := z_fuS h1
    obtain ⟨fu', rfl, -⟩ := z_fuS h2
    have hN : N ≤ 100 := by have := hB.1; omega
    refine ⟨S, Q, N, a, ?_, ?_, ha, hB⟩
    · simp only [k_Wa_measure_28]
      rw [if_neg (nI_nlt (by omega) (by omega))]
    · simp only [k_Mo_findSteps_54]
      rw [if_neg (nI_nlt (by omega) (by omega))]
  | succ d ih =>
    intro k fu fu' S Q N a hd h1 h2 ha hB
    obtain ⟨fu, rfl, h1'⟩ := z_fuS h1
    obtain ⟨fu', rfl, h2'⟩ := z_fuS h2
    have hN : N ≤ 100 := by have := hB.1; omega
    by_cases hk : k < N
    · obtain ⟨cc, hcc, q1, q2, n, hn, hnc⟩ := hB.2.1 k hk
      obtain ⟨S1, Q1, N1, a1, g1, g2, g3, g4, g5⟩ := r_bfs_d (n := n) (k_Mo_findSteps_54 fu') hr hR hf hcc 4 0 zFu zFu S Q N a (by omega) (z_fu (by omega)) (z_fu (by omega)) ha hB hk q2 hn hnc
      obtain ⟨S', Q', N', a', e1, e2, e3, e4⟩ := ih (k + 1) fu fu' S1 Q1 N1 a1 (by omega) (by omega) (by omega) g4 g5
      have hC : ¬ zWc F f F t m0 cc := fun e => by
        have := ((hB.2.2 cc hcc).1 e).2
        rw [hnc] at this
        exact zm1_n (by omega) this.symm
      have hS : S cc = nI n := ((hB.2.2 cc hcc).2 hC).1.trans hnc
      refine ⟨S', Q', N', a', ?_, ?_, e3, e4⟩
      · rw [← e1]
        simp only [k_Wa_measure_28, k_Wa_reachNeighbors, if_pos (nI_lt hk (show N < 2 ^ 31 by omega)), if_pos (show nI k < 100 from nI_lt (b := 100) (by omega) (by omega)), if_neg (zo_in (show k < 100 by omega) (show 100 < 2 ^ 31 by omega)), nI_clamp (show k < 2 ^ 31 by omega), q1, if_neg (z_ltz (show cc < 2 ^ 31 by omega)), if_pos (show nI cc < 100 from nI_lt (b := 100) (by omega) (by omega)), if_neg (zo_in hcc (show 100 < 2 ^ 31 by omega)), nI_clamp (show cc < 2 ^ 31 by omega), hS, nI_1]
        rw [show k_Wa_reachNeighbors_28 (nI cc) zFu (nI (n + 1)) 0 (S, Q, nI N) = some (S1, Q1, nI N1) from g2, Option.bind_some]
      · rw [← e2]
        simp only [k_Mo_findSteps_54]
        rw [if_pos (nI_lt hk (by omega))]
        exact g3
    · refine ⟨S, Q, N, a, ?_, ?_, ha, hB⟩
      · simp only [k_Wa_measure_28]
        rw [if_neg (nI_nlt (by omega) (by omega))]
      · simp only [k_Mo_findSteps_54]
        rw [if_neg (nI_nlt (by omega) (by omega))]
