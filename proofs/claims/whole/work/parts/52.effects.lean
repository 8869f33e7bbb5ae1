def zmu (c : Nat) : Nat := if c < 3 then c else if c = 3 then 23 else if c = 4 then 24 else c - 2
theorem zmu_i {c k : Nat} (hc : c < 25) (hk : k < 25) (h : c ≠ k) : zmu c ≠ zmu k := by
  unfold zmu
  split <;> split <;> (try split) <;> (try split) <;> (try split) <;> (try split) <;> omega
theorem zmu_2 {c : Nat} (hc : c < 25) (h : c ≠ 2) : zmu c ≠ 2 := zmu_i (k := 2) hc (by omega) h
theorem zmu_e {e j : Nat} : zmu (5 + 5 * e + j) = 3 + 5 * e + j := by
  unfold zmu
  rw [if_neg (by omega), if_neg (by omega), if_neg (by omega)]
  omega
def zPP (pa rd : Nat → Int32) : Prop := ∀ c, c < 25 → c ≠ 2 → pa c = rd (zmu c)
theorem zPP_upd {pa rd : Nat → Int32} {c : Nat} {x : Int32} (h : zPP pa rd) (hc : c < 25) : zPP (upd pa c x) (upd rd (zmu c) x) := by
  intro k hk hk2
  by_cases hkc : k = c
  · subst hkc
    rw [zu_s, zu_s]
  · rw [zu_n hkc, zu_n (zmu_i hk hc hkc)]
    exact h k hk hk2
theorem zPP_2 {pa rd : Nat → Int32} {x : Int32} (h : zPP pa rd) : zPP pa (upd rd 2 x) := fun k hk hk2 => by
  rw [zu_n (zmu_2 hk hk2)]
  exact h k hk hk2
theorem zPP_2c {pa rd : Nat → Int32} {x : Int32} (h : zPP pa rd) : zPP (upd pa 2 x) rd := fun k hk hk2 => by
  rw [zu_n hk2]
  exact h k hk hk2
theorem zPP_e {pa rd : Nat → Int32} {e j : Nat} {x : Int32} (h : zPP pa rd) (he : e < 4) (hj : j < 5) : zPP (upd pa (5 + 5 * e + j) x) (upd rd (3 + 5 * e + j) x) := by
  have g := zPP_upd (c := 5 + 5 * e + j) (x := x) h (by omega)
  rw [zmu_e] at g
  exact g
def zEf (pa : Nat → Int32) (e : Nat) : Prop := ((pa (5 + 5 * e + 0) = 104 ∨ pa (5 + 5 * e + 0) = 109) ∧ ∃ n, n < 100 ∧ pa (5 + 5 * e + 1) = nI n) ∨ (pa (5 + 5 * e + 0) = 107 ∧ ∃ k v en ct, k < 6 ∧ v < 10 ∧ en < 4 ∧ 0 < ct ∧ ct < 10 ∧ pa (5 + 5 * e + 1) = nI k ∧ pa (5 + 5 * e + 2) = nI v ∧ pa (5 + 5 * e + 3) = nI en ∧ pa (5 + 5 * e + 4) = nI ct)
theorem zEf_cg {pa pa' : Nat → Int32} {e : Nat} (h : zEf pa e) (g : ∀ c, 5 + 5 * e ≤ c → c < 10 + 5 * e → pa' c = pa c) : zEf pa' e := by
  unfold zEf
  rw [g (5 + 5 * e + 0) (by omega) (by omega), g (5 + 5 * e + 1) (by omega) (by omega), g (5 + 5 * e + 2) (by omega) (by omega), g (5 + 5 * e + 3) (by omega) (by omega), g (5 + 5 * e + 4) (by omega) (by omega)]
  exact h
theorem mo_eff56 {e q : Nat} {m : zsM} {rd : Nat → Int32} {L : Int32} (he : e < 4) (h2 : rd 2 = nI e) : (upd (zmS m q rd).1 37 (((zmS m q rd).1 37) + (1 : Int32)), va_up (va_up (zmS m q rd).2 35 (upd ((zmS m q rd).2 35) (nI (3 + 5 * e)).toNatClampNeg L)) 35 (upd (upd ((zmS m q rd).2 35) (nI (3 + 5 * e)).toNatClampNeg L) (2 : Int32).toNatClampNeg ((upd ((zmS m q rd).2 35) (nI (3 + 5 * e)).toNatClampNeg L) (2 : Int32).toNatClampNeg + (1 : Int32)))) = zmS m (q + 1) (upd (upd rd (3 + 5 * e) L) 2 (nI (e + 1))) := by
  rw [zmS_37, zmS_35, nI_clamp (by omega), show (2 : Int32).toNatClampNeg = 2 from rfl, zup_u, nI_1, zu_n (show 2 ≠ 3 + 5 * e by omega), h2, nI_1]
  unfold zmS
  dsimp only
  rw [zu_u, zup_u]
theorem mo_effect {l e q : Nat} {B : Nat → Int32} {m : zsM} {rd : Nat → Int32} (h : zTt l B m) (hq : q ≤ l) (he : e < 4) (h2 : rd 2 = nI e) : k_Mo_takesEffect (zmS m q rd) = k_Mo_takesEffect_35 (nI (3 + 5 * e)) (if q < l then B q else -1) (zmS m q rd) := by
  obtain ⟨hl, h36, h34⟩ := h
  unfold k_Mo_takesEffect
  rw [if_neg (show ¬ zOut (2 : Int32) 25 from zo_in (i := 2) (by omega) (by omega)), zmS_37, zmS_n (show 36 ≠ 37 by decide), h36, zmS_35, zmS_a (show 34 ≠ 35 by decide), show (2 : Int32).toNatClampNeg = 2 from rfl, h2, show (3 : Int32) + (5 : Int32) * nI e = nI (3 + 5 * e) from by rw [show (5 : Int32) = nI 5 from rfl, pk_mul, show (3 : Int32) = nI 3 from rfl, nI_add]]
  by_cases hql : q < l
  · obtain ⟨b, b1, b2, b3⟩ := h34 q hql
    rw [if_pos (nI_lt hql (by omega)), if_neg (zo_in (by omega) (by omega)), nI_clamp (by omega), if_pos hql, b2, b3]
  · rw [if_neg (nI_nlt (by omega) (by omega)), if_neg hql]
theorem r_effect {l e q : Nat} {B : Nat → Int32} {m : zsM} {pa rd : Nat → Int32} (h : zTt l B m) (hq : q ≤ l) (he : e < 4) (h2 : rd 2 = nI e) (hP : zPP pa rd) : (∃ q' pa' rd', q' ≤ l ∧ k_Tp_readEffect (B, pa, nI l, nI q) (nI (5 + 5 * e)) = some (1, (B, pa', nI l, nI q')) ∧ k_Mo_takesEffect (zmS m q rd) = some (1, zmS m q' rd') ∧ zPP pa' rd' ∧ rd' 2 = nI (e + 1) ∧ (∀ c, c < 5 + 5 * e → pa' c = pa c) ∧ zEf pa' e) ∨ (∃ q' pa' rd', q' ≤ l ∧ k_Tp_readEffect (B, pa, nI l, nI q) (nI (5 + 5 * e)) = some (0, (B, pa', nI l, nI q')) ∧ k_Mo_takesEffect (zmS m q rd) = some (0, zmS m q' rd')) := by
  rw [mo_effect h hq he h2]
  obtain ⟨L, hL⟩ : ∃ L, L = (if q < l then B q else -1) := ⟨_, rfl⟩
  rw [← hL]
  have hz : ¬ zOut (nI (3 + 5 * e)) 25 := zo_in (by omega) (by omega)
  have hz2 : ¬ zOut (2 : Int32) 25 := zo_in (i := 2) (by omega) (by omega)
  have c1 : k_Tp_peek (B, pa, nI l, nI q) = some L := by
    rw [tp_peek h.1 hq, hL]
  have c2 : k_Tp_setPart (B, pa, nI l, nI q) (nI (5 + 5 * e)) L = some (B, upd pa (5 + 5 * e + 0) L, nI l, nI q) := tp_set (by omega)
  have hP1 : zPP (upd pa (5 + 5 * e + 0) L) (upd (upd rd (3 + 5 * e) L) 2 (nI (e + 1))) := zPP_2 (zPP_e (j := 0) hP he (by omega))
  have hS : ∀ s, s < 128 → L = nI s → q < l ∧ k_Tp_skip (B, upd pa (5 + 5 * e + 0) L, nI l, nI q) L = some (1, (B, upd pa (5 + 5 * e + 0) L, nI l, nI (q + 1))) := fun s hs e0 => by
    rcases r_skip (s := s) (upd pa (5 + 5 * e + 0) L) rd h hq hs with ⟨g1, -, g3, -⟩ | ⟨g1, -, -⟩
    · rw [← e0] at g3
      exact ⟨g1, g3⟩
    · by_cases hql : q < l
      · rw [if_pos hql] at hL
        exact absurd (hL.symm.trans e0) (g1 hql)
      · rw [if_neg hql] at hL
        exact absurd (hL.symm.trans e0) (zm1_n (by omega))
  have hnum : L = 104 ∨ L = 109 → (∃ q' pa' rd', q' ≤ l ∧ k_Tp_readEffect_23 (nI (5 + 5 * e)) L (B, upd pa (5 + 5 * e + 0) L, nI l, nI q) = some (1, (B, pa', nI l, nI q')) ∧ k_Mo_takesEffect_56 (nI (3 + 5 * e)) L (zmS m q rd) = some (1, zmS m q' rd') ∧ zPP pa' rd' ∧ rd' 2 = nI (e + 1) ∧ (∀ c, c < 5 + 5 * e → pa' c = pa c) ∧ zEf pa' e) ∨ (∃ q' pa' rd', q' ≤ l ∧ k_Tp_readEffect_23 (nI (5 + 5 * e)) L (B, upd pa (5 + 5 * e + 0) L, nI l, nI q) = some (0, (B, pa', nI l, nI q')) ∧ k_Mo_takesEffect_56 (nI (3 + 5 * e)) L (zmS m q rd) = some (0, zmS m q' rd')) := fun hl4 => by
    have hL7 : ¬ L = 107 := by
      rcases hl4 with r | r <;> rw [r] <;> decide
    obtain ⟨g1, g2⟩ : q < l ∧ k_Tp_skip (B, upd pa (5 + 5 * e + 0) L, nI l, nI q) L = some (1, (B, upd pa (5 + 5 * e + 0) L, nI l, nI (q + 1))) := by
      rcases hl4 with r | r
      · exact hS 104 (by omega) r
      · exact hS 109 (by omega) r
    unfold k_Tp_readEffect_23 k_Mo_takesEffect_56
    rw [g2, Option.bind_some, if_neg hz, if_neg hz2, if_neg hz2, if_neg hL7, mo_eff56 he h2, nI_1, nI_1]
    dsimp only
    rw [if_neg (show ¬ (1 : Int32) = 0 by decide)]
    rcases r_number (c := 5 + 5 * e + 1) (pl := 3 + 5 * e + 1) (upd pa (5 + 5 * e + 0) L) (upd (upd rd (3 + 5 * e) L) 2 (nI (e + 1))) h (show q + 1 ≤ l by omega) (by omega) (by omega) with ⟨v, q', v1, v2, v3, v4⟩ | ⟨v3, v4⟩
    · rw [v3, v4, Option.bind_some, Option.bind_some]
      dsimp only
      rw [if_neg (show ¬ (1 : Int32) = 0 by decide), if_pos (show (1 : Int32) = 0 ∨ (1 : Int32) = 1 from Or.inr rfl)]
      refine Or.inl ⟨q', _, _, v2, rfl, rfl, zPP_e (j := 1) hP1 he (by omega), ?_, fun c hc => ?_, Or.inl ⟨?_, v, v1, zu_s⟩⟩
      · rw [zu_n (by omega), zu_s]
      · rw [zu_n (by omega), zu_n (by omega)]
      · rw [zu_n (by omega), zu_s]
        exact hl4
    · rw [v3, v4, Option.bind_some, Option.bind_some]
      dsimp only
      rw [if_pos rfl, if_pos (show (0 : Int32) = 0 ∨ (0 : Int32) = 1 from Or.inl rfl)]
      exact Or.inr ⟨q + 1, _, _, g1, rfl, rfl⟩
  unfold k_Tp_readEffect k_Mo_takesEffect_35
  rw [c1, Option.bind_some, c2, Option.bind_some]
  by_cases h4 : L = 104
  · rw [if_pos h4, if_pos h4]
    exact hnum (Or.inl h4)
  · rw [if_neg h4, if_neg h4]
    by_cases h9 : L = 109
    · rw [if_pos h9, if_pos h9]
      exact hnum (Or.inr h9)
    · rw [if_neg h9, if_neg h9]
      by_cases h7 : L = 107
      · obtain ⟨g1, g2⟩ := hS 107 (by omega) h7
        rw [if_pos h7, if_pos h7, g2, Option.bind_some]
        unfold k_Mo_takesEffect_56
        rw [if_neg hz, if_neg hz2, if_neg hz2, if_pos h7, mo_eff56 he h2]
        dsimp only
        rw [if_neg (show ¬ (1 : Int32) = 0 by decide), nI_1, nI_1, show nI (5 + 5 * e) + (2 : Int32) = nI (5 + 5 * e + 2) from nI_add _ 2, show nI (5 + 5 * e) + (3 : Int32) = nI (5 + 5 * e + 3) from nI_add _ 3, show nI (5 + 5 * e) + (4 : Int32) = nI (5 + 5 * e + 4) from nI_add _ 4, show nI (3 + 5 * e) + (2 : Int32) = nI (3 + 5 * e + 2) from nI_add _ 2, show nI (3 + 5 * e) + (3 : Int32) = nI (3 + 5 * e + 3) from nI_add _ 3, show nI (3 + 5 * e) + (4 : Int32) = nI (3 + 5 * e + 4) from nI_add _ 4]
        obtain ⟨pa1, hpa1⟩ : ∃ pa1, pa1 = upd pa (5 + 5 * e + 0) L := ⟨_, rfl⟩
        obtain ⟨rd1, hrd1⟩ : ∃ rd1, rd1 = upd (upd rd (3 + 5 * e) L) 2 (nI (e + 1)) := ⟨_, rfl⟩
        rw [← hpa1, ← hrd1] at hP1 ⊢
        rcases r_digit (c := 5 + 5 * e + 1) (pl := 3 + 5 * e + 1) (lo := 0) (hi := 5) pa1 rd1 h (show q + 1 ≤ l by omega) (by omega) (by omega) (by omega) (by omega) with ⟨d1, -, d2, d3, d4, d5⟩ | ⟨d4, d5⟩
        · rw [show k_Tp_readDigit _ _ 0 5 = _ from d4, show k_Mo_takes _ _ 0 5 = _ from d5, Option.bind_some, Option.bind_some]
          dsimp only
          rw [if_neg (show ¬ (1 : Int32) = 0 by decide), if_neg (show ¬ (1 : Int32) = 0 by decide)]
          obtain ⟨pa2, hpa2⟩ : ∃ pa2, pa2 = upd pa1 (5 + 5 * e + 1) (nI d1) := ⟨_, rfl⟩
          obtain ⟨rd2, hrd2⟩ : ∃ rd2, rd2 = upd rd1 (3 + 5 * e + 1) (nI d1) := ⟨_, rfl⟩
          have hP2 : zPP pa2 rd2 := by
            rw [hpa2, hrd2]
            exact zPP_e hP1 he (by omega)
          rw [← hpa2, ← hrd2]
          rcases r_digit (c := 5 + 5 * e + 2) (pl := 3 + 5 * e + 2) (lo := 1) (hi := 9) pa2 rd2 h (show q + 1 + 1 ≤ l by omega) (by omega) (by omega) (by omega) (by omega) with ⟨x1, x0, x2, x3, x4, x5⟩ | ⟨x4, x5⟩
          · rw [show k_Tp_readDigit _ _ 1 9 = _ from x4, show k_Mo_takes _ _ 1 9 = _ from x5, Option.bind_some, Option.bind_some]
            dsimp only
            rw [if_neg (show ¬ (1 : Int32) = 0 by decide), if_neg (show ¬ (1 : Int32) = 0 by decide)]
            obtain ⟨pa3, hpa3⟩ : ∃ pa3, pa3 = upd pa2 (5 + 5 * e + 2) (nI x1) := ⟨_, rfl⟩
            obtain ⟨rd3, hrd3⟩ : ∃ rd3, rd3 = upd rd2 (3 + 5 * e + 2) (nI x1) := ⟨_, rfl⟩
            have hP3 : zPP pa3 rd3 := by
              rw [hpa3, hrd3]
              exact zPP_e hP2 he (by omega)
            rw [← hpa3, ← hrd3]
            rcases r_digit (c := 5 + 5 * e + 3) (pl := 3 + 5 * e + 3) (lo := 0) (hi := 3) pa3 rd3 h (show q + 1 + 1 + 1 ≤ l by omega) (by omega) (by omega) (by omega) (by omega) with ⟨y1, -, y2, y3, y4, y5⟩ | ⟨y4, y5⟩
            · rw [show k_Tp_readDigit _ _ 0 3 = _ from y4, show k_Mo_takes _ _ 0 3 = _ from y5, Option.bind_some, Option.bind_some]
              dsimp only
              rw [if_neg (show ¬ (1 : Int32) = 0 by decide), if_neg (show ¬ (1 : Int32) = 0 by decide)]
              obtain ⟨pa4, hpa4⟩ : ∃ pa4, pa4 = upd pa3 (5 + 5 * e + 3) (nI y1) := ⟨_, rfl⟩
              obtain ⟨rd4, hrd4⟩ : ∃ rd4, rd4 = upd rd3 (3 + 5 * e + 3) (nI y1) := ⟨_, rfl⟩
              have hP4 : zPP pa4 rd4 := by
                rw [hpa4, hrd4]
                exact zPP_e hP3 he (by omega)
              rw [← hpa4, ← hrd4]
              rcases r_digit (c := 5 + 5 * e + 4) (pl := 3 + 5 * e + 4) (lo := 1) (hi := 9) pa4 rd4 h (show q + 1 + 1 + 1 + 1 ≤ l by omega) (by omega) (by omega) (by omega) (by omega) with ⟨w1, w0, w2, w3, w4, w5⟩ | ⟨w4, w5⟩
              · rw [show k_Tp_readDigit _ _ 1 9 = _ from w4, show k_Mo_takes _ _ 1 9 = _ from w5, Option.bind_some, Option.bind_some]
                dsimp only
                rw [if_neg (show ¬ (1 : Int32) = 0 by decide), if_neg (show ¬ (1 : Int32) = 0 by decide)]
                refine Or.inl ⟨q + 1 + 1 + 1 + 1 + 1, _, _, by omega, rfl, rfl, zPP_e (j := 4) hP4 he (by omega), ?_, fun c hc => ?_, Or.inr ⟨?_, d1, x1, y1, w1, by omega, by omega, by omega, by omega, by omega, ?_, ?_, ?_, zu_s⟩⟩
                · rw [zu_n (by omega), hrd4, zu_n (by omega), hrd3, zu_n (by omega), hrd2, zu_n (by omega), hrd1, zu_s]
                · rw [zu_n (by omega), hpa4, zu_n (by omega), hpa3, zu_n (by omega), hpa2, zu_n (by omega), hpa1, zu_n (by omega)]
                · rw [zu_n (by omega), hpa4, zu_n (by omega), hpa3, zu_n (by omega), hpa2, zu_n (by omega), hpa1, zu_s, h7]
                · rw [zu_n (by omega), hpa4, zu_n (by omega), hpa3, zu_n (by omega), hpa2, zu_s]
                · rw [zu_n (by omega), hpa4, zu_n (by omega), hpa3, zu_s]
                · rw [zu_n (by omega), hpa4, zu_s]
              · rw [show k_Tp_readDigit _ _ 1 9 = _ from w4, show k_Mo_takes _ _ 1 9 = _ from w5, Option.bind_some, Option.bind_some]
                dsimp only
                rw [if_pos rfl, if_pos rfl]
                exact Or.inr ⟨_, _, _, by omega, rfl, rfl⟩
            · rw [show k_Tp_readDigit _ _ 0 3 = _ from y4, show k_Mo_takes _ _ 0 3 = _ from y5, Option.bind_some, Option.bind_some]
              dsimp only
              rw [if_pos rfl, if_pos rfl]
              exact Or.inr ⟨_, _, _, by omega, rfl, rfl⟩
          · rw [show k_Tp_readDigit _ _ 1 9 = _ from x4, show k_Mo_takes _ _ 1 9 = _ from x5, Option.bind_some, Option.bind_some]
            dsimp only
            rw [if_pos rfl, if_pos rfl]
            exact Or.inr ⟨_, _, _, by omega, rfl, rfl⟩
        · rw [show k_Tp_readDigit _ _ 0 5 = _ from d4, show k_Mo_takes _ _ 0 5 = _ from d5, Option.bind_some, Option.bind_some]
          dsimp only
          rw [if_pos rfl, if_pos rfl]
          exact Or.inr ⟨_, _, _, by omega, rfl, rfl⟩
      · rw [if_neg h7, if_neg h7]
        exact Or.inr ⟨q, _, _, hq, rfl, rfl⟩
