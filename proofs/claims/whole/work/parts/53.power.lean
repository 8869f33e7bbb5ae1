theorem r_effects {l : Nat} {B : Nat → Int32} {m : zsM} (h : zTt l B m) : ∀ (d e fu fu' q : Nat) (pa rd : Nat → Int32), e + d = 3 → d < fu → d < fu' → q ≤ l → rd 2 = nI e → zPP pa rd → (∀ e', e' < e → zEf pa e') → (∃ q' pa' rd' E, q' ≤ l ∧ 0 < E ∧ E ≤ 4 ∧ k_Tp_readEffects_22 (k_Tp_readEffects_2 fu) (nI e) (B, pa, nI l, nI q) = some (1, (B, pa', nI l, nI q')) ∧ k_Mo_takesPower_89 fu' (zmS m q rd) = k_Mo_takesPower_117 (zmS m q' rd') ∧ zPP pa' rd' ∧ pa' 2 = nI E ∧ rd' 2 = nI E ∧ (∀ e', e' < E → zEf pa' e') ∧ ∀ c, c < 5 → c ≠ 2 → pa' c = pa c) ∨ (∃ q' pa' rd', q' ≤ l ∧ k_Tp_readEffects_22 (k_Tp_readEffects_2 fu) (nI e) (B, pa, nI l, nI q) = some (0, (B, pa', nI l, nI q')) ∧ k_Mo_takesPower_89 fu' (zmS m q rd) = some (0, zmS m q' rd')) := by
  intro d
  induction d with
  | zero =>
    intro e fu fu' q pa rd he h1 h2 hq hr hP hE
    obtain ⟨fu, rfl, -⟩ := z_fuS h1
    obtain ⟨fu', rfl, -⟩ := z_fuS h2
    have : e = 3 := by omega
    subst this
    simp only [k_Mo_takesPower_89, k_Tp_readEffects_22]
    rw [show (5 : Int32) + nI 3 * (5 : Int32) = nI (5 + 5 * 3) from rfl]
    rcases r_effect h hq (show 3 < 4 by omega) hr hP with ⟨q', pa', rd', g1, g2, g3, g4, g5, g6, g7⟩ | ⟨q', pa', rd', g1, g2, g3⟩
    · rw [g2, g3, Option.bind_some, Option.bind_some]
      dsimp only
      rw [if_neg (show ¬ (1 : Int32) = 0 by decide), if_neg (show ¬ (1 : Int32) = 0 by decide), show k_Tp_setPart (B, pa', nI l, nI q') 2 (nI 3 + 1) = some (B, upd pa' 2 (nI 4), nI l, nI q') from tp_set (c := 2) (by omega), Option.bind_some, if_neg (show ¬ zOut (2 : Int32) 25 from zo_in (i := 2) (by omega) (by omega)), zmS_35, show (2 : Int32).toNatClampNeg = 2 from rfl, g5, if_neg (show ¬ nI (3 + 1) < (4 : Int32) by decide)]
      refine Or.inl ⟨q', upd pa' 2 (nI 4), rd', 4, g1, by omega, by omega, ?_, rfl, zPP_2c g4, zu_s, g5, fun e' he' => ?_, fun c hc hc2 => ?_⟩
      · simp only [k_Tp_readEffects_2]
        rw [show nI 3 + (1 : Int32) = nI 4 from rfl, if_neg (show ¬ nI 4 < (4 : Int32) by decide)]
      · by_cases he3 : e' = 3
        · subst he3
          exact zEf_cg g7 fun c hc1 hc2 => zu_n (by omega)
        · exact zEf_cg (hE e' (by omega)) fun c hc1 hc2 => (zu_n (by omega)).trans (g6 c (by omega))
      · exact (zu_n hc2).trans (g6 c (by omega))
    · rw [g2, g3, Option.bind_some, Option.bind_some]
      dsimp only
      rw [if_pos rfl, if_pos rfl]
      exact Or.inr ⟨_, _, _, g1, rfl, rfl⟩
  | succ d ih =>
    intro e fu fu' q pa rd he h1 h2 hq hr hP hE
    obtain ⟨fu, rfl, h1'⟩ := z_fuS h1
    obtain ⟨fu', rfl, h2'⟩ := z_fuS h2
    simp only [k_Mo_takesPower_89, k_Tp_readEffects_22]
    rw [show (5 : Int32) + nI e * (5 : Int32) = nI (5 + 5 * e) from by rw [show (5 : Int32) = nI 5 from rfl, pk_mul, nI_add, Nat.mul_comm e 5]]
    rcases r_effect h hq (show e < 4 by omega) hr hP with ⟨q', pa', rd', g1, g2, g3, g4, g5, g6, g7⟩ | ⟨q', pa', rd', g1, g2, g3⟩
    · rw [g2, g3, Option.bind_some, Option.bind_some]
      dsimp only
      rw [if_neg (show ¬ (1 : Int32) = 0 by decide), if_neg (show ¬ (1 : Int32) = 0 by decide), nI_1, show k_Tp_setPart (B, pa', nI l, nI q') 2 (nI (e + 1)) = some (B, upd pa' 2 (nI (e + 1)), nI l, nI q') from tp_set (c := 2) (by omega), Option.bind_some, if_neg (show ¬ zOut (2 : Int32) 25 from zo_in (i := 2) (by omega) (by omega)), zmS_35, show (2 : Int32).toNatClampNeg = 2 from rfl, g5, if_pos (show nI (e + 1) < (4 : Int32) from nI_lt (b := 4) (by omega) (by omega))]
      have hE' : ∀ e', e' < e + 1 → zEf (upd pa' 2 (nI (e + 1))) e' := fun e' he' => by
        by_cases he3 : e' = e
        · subst he3
          exact zEf_cg g7 fun c hc1 hc2 => zu_n (by omega)
        · exact zEf_cg (hE e' (by omega)) fun c hc1 hc2 => (zu_n (by omega)).trans (g6 c (by omega))
      have hcls : k_Tp_readEffects_2 (fu + 1) (nI (e + 1)) (B, upd pa' 2 (nI (e + 1)), nI l, nI q') = (k_Tp_skip (B, upd pa' 2 (nI (e + 1)), nI l, nI q') (nI 44)).bind fun o6 => if o6.1 = 0 then some (1, o6.2) else k_Tp_readEffects_22 (k_Tp_readEffects_2 fu) (nI (e + 1)) o6.2 := by
        simp only [k_Tp_readEffects_2]
        rw [if_pos (show nI (e + 1) < (4 : Int32) from nI_lt (b := 4) (by omega) (by omega)), if_pos (show (0 : Int32) < nI (e + 1) from nI_lt (a := 0) (by omega) (by omega))]
        rfl
      rw [hcls]
      rcases r_skip (s := 44) (upd pa' 2 (nI (e + 1))) rd' h g1 (by omega) with ⟨s1, -, s3, s4⟩ | ⟨-, s3, s4⟩
      · rw [s3, show k_Mo_skips (zmS m q' rd') 44 = _ from s4, Option.bind_some, Option.bind_some]
        dsimp only
        rw [if_neg (show ¬ (1 : Int32) = 0 by decide), if_neg (show ¬ (1 : Int32) = 0 by decide)]
        rcases ih (e + 1) fu fu' (q' + 1) (upd pa' 2 (nI (e + 1))) rd' (by omega) (by omega) (by omega) (by omega) g5 (zPP_2c g4) hE' with ⟨q2, pa2, rd2, E, k1, k2, k3, k4, k5, k6, k7, k8, k9, k10⟩ | ⟨q2, pa2, rd2, k1, k2, k3⟩
        · exact Or.inl ⟨q2, pa2, rd2, E, k1, k2, k3, k4, k5, k6, k7, k8, k9, fun c hc hc2 => (k10 c hc hc2).trans ((zu_n hc2).trans (g6 c (by omega)))⟩
        · exact Or.inr ⟨q2, pa2, rd2, k1, k2, k3⟩
      · rw [s3, show k_Mo_skips (zmS m q' rd') 44 = _ from s4, Option.bind_some, Option.bind_some]
        dsimp only
        rw [if_pos rfl, if_pos rfl]
        exact Or.inl ⟨q', upd pa' 2 (nI (e + 1)), rd', e + 1, g1, by omega, by omega, rfl, rfl, zPP_2c g4, zu_s, g5, hE', fun c hc hc2 => (zu_n hc2).trans (g6 c (by omega))⟩
    · rw [g2, g3, Option.bind_some, Option.bind_some]
      dsimp only
      rw [if_pos rfl, if_pos rfl]
      exact Or.inr ⟨_, _, _, g1, rfl, rfl⟩
theorem r_cost {l q : Nat} {B : Nat → Int32} {m : zsM} {pa rd : Nat → Int32} (h : zTt l B m) (hq : q ≤ l) (hP : zPP pa rd) (h3 : pa 3 = nI 0) (h4 : pa 4 = nI 0) : (∃ q' pa' rd' r co, q' ≤ l ∧ r < 3 ∧ co < 10 ∧ ((k_Tp_readCost (B, pa, nI l, nI q)).bind fun o10 => if o10.1 = 0 then some ((0 : Int32), o10.2) else if o10.2.2.2.2 = o10.2.2.2.1 then some ((1 : Int32), o10.2) else some ((0 : Int32), o10.2)) = some (1, (B, pa', nI l, nI q')) ∧ k_Mo_takesPower_117 (zmS m q rd) = some (1, zmS m q' rd') ∧ zPP pa' rd' ∧ rd' 2 = rd 2 ∧ pa' 3 = nI r ∧ pa' 4 = nI co ∧ ∀ c, c ≠ 3 → c ≠ 4 → pa' c = pa c) ∨ (∃ q' pa' rd', q' ≤ l ∧ ((k_Tp_readCost (B, pa, nI l, nI q)).bind fun o10 => if o10.1 = 0 then some ((0 : Int32), o10.2) else if o10.2.2.2.2 = o10.2.2.2.1 then some ((1 : Int32), o10.2) else some ((0 : Int32), o10.2)) = some (0, (B, pa', nI l, nI q')) ∧ k_Mo_takesPower_117 (zmS m q rd) = some (0, zmS m q' rd')) := by
  have hl := h.1
  have hend : ∀ (q' : Nat) (rd' : Nat → Int32), q' ≤ l → k_Mo_takesPower_151 (zmS m q' rd') = if q' = l then some (1, zmS m q' rd') else some (0, zmS m q' rd') := fun q' rd' hq' => by
    unfold k_Mo_takesPower_151
    rw [zmS_37, zmS_n (show 36 ≠ 37 by decide), h.2.1]
    by_cases hql : q' = l
    · rw [if_pos hql, if_pos (by rw [hql])]
    · rw [if_neg hql, if_neg (fun e => hql ((nI_eq (by omega) (by omega)).1 e))]
  have hendc : ∀ (q' : Nat) (pa' : Nat → Int32), q' ≤ l → (if nI q' = nI l then some ((1 : Int32), ((B, pa', nI l, nI q') : zsP)) else some ((0 : Int32), (B, pa', nI l, nI q'))) = if q' = l then some (1, (B, pa', nI l, nI q')) else some (0, (B, pa', nI l, nI q')) := fun q' pa' hq' => by
    by_cases hql : q' = l
    · rw [if_pos hql, if_pos (by rw [hql])]
    · rw [if_neg hql, if_neg (fun e => hql ((nI_eq (by omega) (by omega)).1 e))]
  unfold k_Tp_readCost k_Mo_takesPower_117
  rcases r_skip (s := 36) pa rd h hq (by omega) with ⟨s1, -, s3, s4⟩ | ⟨-, s3, s4⟩
  · rw [show k_Tp_skip (B, pa, nI l, nI q) 36 = _ from s3, show k_Mo_skips (zmS m q rd) 36 = _ from s4, Option.bind_some, Option.bind_some]
    dsimp only
    rw [if_neg (show ¬ (1 : Int32) = 0 by decide), if_neg (show ¬ (1 : Int32) = 0 by decide)]
    rcases r_digit (c := 3) (pl := 23) (lo := 0) (hi := 2) pa rd h (show q + 1 ≤ l by omega) (by omega) (by omega) (by omega) (by omega) with ⟨d1, -, d2, d3, d4, d5⟩ | ⟨d4, d5⟩
    · rw [show k_Tp_readDigit _ 3 0 2 = _ from d4, show k_Mo_takes _ 23 0 2 = _ from d5, Option.bind_some, Option.bind_some]
      dsimp only
      rw [if_neg (show ¬ (1 : Int32) = 0 by decide), if_neg (show ¬ (1 : Int32) = 0 by decide)]
      rcases r_digit (c := 4) (pl := 24) (lo := 1) (hi := 9) (upd pa 3 (nI d1)) (upd rd 23 (nI d1)) h (show q + 1 + 1 ≤ l by omega) (by omega) (by omega) (by omega) (by omega) with ⟨x1, x0, x2, x3, x4, x5⟩ | ⟨x4, x5⟩
      · rw [show k_Tp_readDigit _ 4 1 9 = _ from x4, show k_Mo_takes _ 24 1 9 = _ from x5, Option.bind_some, Option.bind_some]
        dsimp only
        rw [if_neg (show ¬ (1 : Int32) = 0 by decide), if_neg (show ¬ (1 : Int32) = 0 by decide), Option.bind_some]
        dsimp only
        rw [if_neg (show ¬ (1 : Int32) = 0 by decide), hend _ _ (by omega), hendc _ _ (by omega)]
        by_cases hql : q + 1 + 1 + 1 = l
        · rw [if_pos hql, if_pos hql]
          refine Or.inl ⟨q + 1 + 1 + 1, _, _, d1, x1, by omega, by omega, by omega, rfl, rfl, zPP_upd (c := 4) (zPP_upd (c := 3) hP (by omega)) (by omega), ?_, ?_, zu_s, fun c hc hc2 => ?_⟩
          · rw [zu_n (by omega), zu_n (by omega)]
          · rw [zu_n (by omega), zu_s]
          · rw [zu_n hc2, zu_n hc]
        · rw [if_neg hql, if_neg hql]
          exact Or.inr ⟨_, _, _, by omega, rfl, rfl⟩
      · rw [show k_Tp_readDigit _ 4 1 9 = _ from x4, show k_Mo_takes _ 24 1 9 = _ from x5, Option.bind_some, Option.bind_some]
        dsimp only
        rw [if_pos rfl, if_pos rfl, Option.bind_some]
        dsimp only
        rw [if_pos rfl]
        exact Or.inr ⟨_, _, _, by omega, rfl, rfl⟩
    · rw [show k_Tp_readDigit _ 3 0 2 = _ from d4, show k_Mo_takes _ 23 0 2 = _ from d5, Option.bind_some, Option.bind_some]
      dsimp only
      rw [if_pos rfl, if_pos rfl, Option.bind_some]
      dsimp only
      rw [if_pos rfl]
      exact Or.inr ⟨_, _, _, by omega, rfl, rfl⟩
  · rw [show k_Tp_skip (B, pa, nI l, nI q) 36 = _ from s3, show k_Mo_skips (zmS m q rd) 36 = _ from s4, Option.bind_some, Option.bind_some]
    dsimp only
    rw [if_pos rfl, if_pos rfl, Option.bind_some]
    dsimp only
    rw [if_neg (show ¬ (1 : Int32) = 0 by decide), hend _ _ hq, hendc _ _ hq]
    by_cases hql : q = l
    · rw [if_pos hql, if_pos hql]
      exact Or.inl ⟨q, _, _, 0, 0, hq, by omega, by omega, rfl, rfl, hP, rfl, h3, h4, fun c _ _ => rfl⟩
    · rw [if_neg hql, if_neg hql]
      exact Or.inr ⟨_, _, _, hq, rfl, rfl⟩
def zPV (pa : Nat → Int32) : Prop := ∃ sh s r co E, sh < 4 ∧ s < 6 ∧ r < 3 ∧ co < 10 ∧ 0 < E ∧ E ≤ 4 ∧ pa 0 = nI sh ∧ pa 1 = nI s ∧ pa 2 = nI E ∧ pa 3 = nI r ∧ pa 4 = nI co ∧ ∀ e, e < E → zEf pa e
theorem ar_fill_lp : ∀ (d i fu : Nat) (x : Nat → Int32), i + d = 25 → d < fu → (∀ c, c < i → x c = 0) → ∃ y, k_Ar_fill_5 25 0 fu (nI i) (Int32.ofNat 25) x = some y ∧ ∀ c, c < 25 → y c = 0 := by
  intro d
  induction d with
  | zero =>
    intro i fu x hi h1 h
    obtain ⟨fu, rfl, -⟩ := z_fuS h1
    have : i = 25 := by omega
    subst this
    refine ⟨x, ?_, h⟩
    simp only [k_Ar_fill_5]
    rw [if_neg (by decide)]
  | succ d ih =>
    intro i fu x hi h1 h
    obtain ⟨fu, rfl, h1'⟩ := z_fuS h1
    obtain ⟨y, e, h2⟩ := ih (i + 1) fu (upd x i 0) (by omega) (by omega) (fun c hc => by
      by_cases hci : c = i
      · subst hci
        exact zu_s
      · rw [zu_n hci]
        exact h c (by omega))
    refine ⟨y, ?_, h2⟩
    rw [← e]
    simp only [k_Ar_fill_5]
    rw [if_pos (show nI i < Int32.ofNat 25 from nI_lt (b := 25) (by omega) (by omega)), if_neg (zo_in (by omega) (by omega)), nI_clamp (by omega), nI_1]
theorem mo_fill_lp {l : Nat} {B : Nat → Int32} {m : zsM} (h : zTt l B m) : ∀ (d i fu : Nat) (rd : Nat → Int32), i + d = 25 → d < fu → (∀ c, c < i → rd c = 0) → ∃ rd' sh, k_Mo_takesPower_2 fu (nI i) (m.1, va_up m.2 35 rd) = k_Mo_takesPower_51 sh 0 (zmS m 0 rd') ∧ k_Mo_shapeOf (if 0 < l then B 0 else -1) = some sh ∧ ∀ c, c < 25 → rd' c = 0 := by
  obtain ⟨hl, h36, h34⟩ := h
  intro d
  induction d with
  | zero =>
    intro i fu rd hi h1 h
    obtain ⟨fu, rfl, -⟩ := z_fuS h1
    have : i = 25 := by omega
    subst this
    have hz : (upd m.1 37 (0 : Int32), va_up m.2 35 rd) = zmS m 0 rd := rfl
    have hsh : ∃ sh, k_Mo_shapeOf (if 0 < l then B 0 else -1) = some sh := by
      unfold k_Mo_shapeOf
      repeat' split
      all_goals exact ⟨_, rfl⟩
    obtain ⟨sh, hsh⟩ := hsh
    refine ⟨rd, sh, ?_, hsh, h⟩
    simp only [k_Mo_takesPower_2]
    rw [if_neg (by decide), h36, hz]
    by_cases hl0 : 0 < l
    · obtain ⟨b, b1, b2, b3⟩ := h34 0 hl0
      rw [if_pos hl0, b2, ← b3] at hsh
      rw [if_pos (show (0 : Int32) < nI l from nI_lt (a := 0) hl0 (by omega)), if_neg (show ¬ zOut (0 : Int32) 40 from zo_in (i := 0) (by omega) (by omega)), zup_n (show 34 ≠ 35 by decide), show (0 : Int32).toNatClampNeg = 0 from rfl, hsh, Option.bind_some]
    · rw [if_neg hl0] at hsh
      rw [if_neg (show ¬ (0 : Int32) < nI l from nI_nlt (a := 0) (by omega) (by omega))]
      rw [show k_Mo_shapeOf (-1) = some (-1) from rfl] at hsh
      rw [← Option.some.inj hsh]
  | succ d ih =>
    intro i fu rd hi h1 h
    obtain ⟨fu, rfl, h1'⟩ := z_fuS h1
    obtain ⟨rd', sh, e, h2⟩ := ih (i + 1) fu (upd rd i 0) (by omega) (by omega) (fun c hc => by
      by_cases hci : c = i
      · subst hci
        exact zu_s
      · rw [zu_n hci]
        exact h c (by omega))
    refine ⟨rd', sh, ?_, h2⟩
    rw [← e]
    simp only [k_Mo_takesPower_2]
    rw [if_pos (show nI i < 25 from nI_lt (b := 25) (by omega) (by omega)), if_neg (zo_in (by omega) (by omega)), nI_clamp (by omega), nI_1, zup_s, zup_u]
theorem zup_id {α : Type} (f : Nat → α) (k : Nat) : va_up f k (f k) = f := by
  funext j
  by_cases h : j = k
  · subst h
    exact zup_s
  · exact zup_n h
theorem zsh_cases (x : Int32) : (∃ s sh, s < 128 ∧ sh < 4 ∧ x = nI s ∧ k_Mo_shapeOf x = some (nI sh) ∧ ∀ y : zsP, (k_Tp_peek y = some x → k_Tp_readShape y = k_Tp_readShape_46 x (nI sh) y)) ∨ (k_Mo_shapeOf x = some (-1) ∧ ∀ y : zsP, (k_Tp_peek y = some x → k_Tp_readShape y = k_Tp_readShape_46 x (-1) y)) := by
  unfold k_Mo_shapeOf
  by_cases h1 : x = 115
  · refine Or.inl ⟨115, 0, by omega, by omega, h1, ?_, fun y hy => ?_⟩
    · rw [if_pos h1]
      rfl
    · unfold k_Tp_readShape
      rw [hy, Option.bind_some, if_pos h1]
      rfl
  · by_cases h2 : x = 100
    · refine Or.inl ⟨100, 1, by omega, by omega, h2, ?_, fun y hy => ?_⟩
      · rw [if_neg h1, if_pos h2]
        rfl
      · unfold k_Tp_readShape
        rw [hy, Option.bind_some, if_neg h1, if_pos h2]
        rfl
    · by_cases h3 : x = 99
      · refine Or.inl ⟨99, 2, by omega, by omega, h3, ?_, fun y hy => ?_⟩
        · rw [if_neg h1, if_neg h2, if_pos h3]
          rfl
        · unfold k_Tp_readShape
          rw [hy, Option.bind_some, if_neg h1, if_neg h2, if_pos h3]
          rfl
      · by_cases h4 : x = 108
        · refine Or.inl ⟨108, 3, by omega, by omega, h4, ?_, fun y hy => ?_⟩
          · rw [if_neg h1, if_neg h2, if_neg h3, if_pos h4]
            rfl
          · unfold k_Tp_readShape
            rw [hy, Option.bind_some, if_neg h1, if_neg h2, if_neg h3, if_pos h4]
            rfl
        · refine Or.inr ⟨?_, fun y hy => ?_⟩
          · rw [if_neg h1, if_neg h2, if_neg h3, if_neg h4]
          · unfold k_Tp_readShape
            rw [hy, Option.bind_some, if_neg h1, if_neg h2, if_neg h3, if_neg h4]
theorem r_power {l : Nat} {B pa : Nat → Int32} {pos : Int32} {m : zsM} (h : zTt l B m) : (∃ q' pa' rd', q' ≤ l ∧ k_Tp_readPower (B, pa, nI l, pos) = some (1, (B, pa', nI l, nI q')) ∧ k_Mo_takesPower m = some (1, zmS m q' rd') ∧ zPP pa' rd' ∧ rd' 2 = pa' 2 ∧ zPV pa') ∨ (∃ q' pa' rd', q' ≤ l ∧ k_Tp_readPower (B, pa, nI l, pos) = some (0, (B, pa', nI l, nI q')) ∧ k_Mo_takesPower m = some (0, zmS m q' rd')) := by
  have hl := h.1
  obtain ⟨y, f1, f2⟩ := ar_fill_lp 25 0 zFu pa (by omega) (z_fu (by omega)) (fun c hc => by omega)
  obtain ⟨rd, sh, f3, f4, f5⟩ := mo_fill_lp h 25 0 zFu (m.2 35) (by omega) (z_fu (by omega)) (fun c hc => by omega)
  rw [zup_id] at f3
  have hmo : k_Mo_takesPower m = k_Mo_takesPower_51 sh 0 (zmS m 0 rd) := f3
  have hfl : k_Ar_fill 25 pa 0 = some y := f1
  have hpk : k_Tp_peek (B, y, nI l, 0) = some (if 0 < l then B 0 else -1) := tp_peek (q := 0) hl (by omega)
  have hP0 : zPP y rd := fun c hc hc2 => by
    rw [f2 c hc, f5]
    unfold zmu
    split
    · omega
    · split
      · omega
      · split <;> omega
  rw [hmo]
  unfold k_Tp_readPower k_Mo_takesPower_51
  dsimp only
  rw [hfl, Option.bind_some, if_neg (show ¬ zOut (0 : Int32) 25 from zo_in (i := 0) (by omega) (by omega)), if_neg (show ¬ zOut (0 : Int32) 25 from zo_in (i := 0) (by omega) (by omega)), show (0 : Int32).toNatClampNeg = 0 from rfl, zmS_35, zu_s]
  rcases zsh_cases (if 0 < l then B 0 else -1) with ⟨s, sh', s1, s2, s3, s4, s5⟩ | ⟨s4, s5⟩
  · rw [s4] at f4
    have hsh := Option.some.inj f4
    rw [← hsh, if_neg (z_ltz (show sh' < 2 ^ 31 by omega)), s5 _ hpk, s3]
    have hset : k_Tp_setPart (B, y, nI l, 0) 0 (nI sh') = some (B, upd y 0 (nI sh'), nI l, nI 0) := tp_set (c := 0) (q := 0) (by omega)
    unfold k_Tp_readShape_46
    rw [hset, Option.bind_some, if_neg (z_ltz (show sh' < 2 ^ 31 by omega))]
    rcases r_skip (q := 0) (s := s) (upd y 0 (nI sh')) rd h (by omega) s1 with ⟨t1, -, t3, -⟩ | ⟨t1, -, -⟩
    · rw [t3, Option.bind_some]
      dsimp only
      rw [if_neg (show ¬ (1 : Int32) = 0 by decide), Option.bind_some]
      dsimp only
      rw [if_neg (show ¬ (1 : Int32) = 0 by decide), show (upd (zmS m 0 rd).1 37 (1 : Int32), va_up (zmS m 0 rd).2 35 (upd rd 0 (nI sh'))) = zmS m (0 + 1) (upd rd 0 (nI sh')) from zmS_u2]
      have hP1 : zPP (upd y 0 (nI sh')) (upd rd 0 (nI sh')) := zPP_upd (c := 0) hP0 (by omega)
      rcases r_digit (c := 1) (pl := 1) (lo := 0) (hi := 5) (upd y 0 (nI sh')) (upd rd 0 (nI sh')) h (show 0 + 1 ≤ l by omega) (by omega) (by omega) (by omega) (by omega) with ⟨d1, -, d2, d3, d4, d5⟩ | ⟨d4, d5⟩
      · rw [show k_Tp_readDigit _ 1 0 5 = _ from d4, show k_Mo_takes _ 1 0 5 = _ from d5, Option.bind_some, Option.bind_some]
        dsimp only
        rw [if_neg (show ¬ (1 : Int32) = 0 by decide), if_neg (show ¬ (1 : Int32) = 0 by decide)]
        obtain ⟨pa2, hpa2⟩ : ∃ pa2, pa2 = upd (upd y 0 (nI sh')) 1 (nI d1) := ⟨_, rfl⟩
        obtain ⟨rd2, hrd2⟩ : ∃ rd2, rd2 = upd (upd rd 0 (nI sh')) 1 (nI d1) := ⟨_, rfl⟩
        have hP2 : zPP pa2 rd2 := by
          rw [hpa2, hrd2]
          exact zPP_upd (c := 1) hP1 (by omega)
        rw [← hpa2, ← hrd2]
        rcases r_skip (s := 58) pa2 rd2 h (show 0 + 1 + 1 ≤ l by omega) (by omega) with ⟨u1, -, u3, u4⟩ | ⟨-, u3, u4⟩
        · rw [show k_Tp_skip _ 58 = _ from u3, show k_Mo_skips _ 58 = _ from u4, Option.bind_some, Option.bind_some]
          dsimp only
          rw [if_neg (show ¬ (1 : Int32) = 0 by decide), if_neg (show ¬ (1 : Int32) = 0 by decide)]
          obtain ⟨g, hg⟩ : ∃ g, zFu = g + 1 ∧ 10 < g := ⟨zFu - 1, by have := zFu_gt; omega, by have := zFu_gt; omega⟩
          have hre : ∀ st, k_Tp_readEffects st = k_Tp_readEffects_22 (k_Tp_readEffects_2 g) (nI 0) st := fun st => by
            unfold k_Tp_readEffects
            rw [hg.1]
            simp only [k_Tp_readEffects_2]
            rw [if_pos (by decide), if_neg (by decide)]
            rfl
          rw [hre]
          rcases r_effects h 3 0 g zFu (0 + 1 + 1 + 1) pa2 rd2 (by omega) (by omega) (z_fu (by omega)) (by omega) (by
            rw [hrd2, zu_n (by omega), zu_n (by omega), f5 2 (by omega)]
            rfl) hP2 (fun e' he' => by omega) with ⟨q', pa', rd', E, k1, k2, k3, k4, k5, k6, k7, k8, k9, k10⟩ | ⟨q', pa', rd', k1, k4, k5⟩
          · rw [k4, k5, Option.bind_some]
            dsimp only
            rw [if_neg (show ¬ (1 : Int32) = 0 by decide)]
            have hpa3 : pa' 3 = nI 0 := by
              rw [k10 3 (by omega) (by omega), hpa2, zu_n (by omega), zu_n (by omega), f2 3 (by omega)]
              rfl
            have hpa4 : pa' 4 = nI 0 := by
              rw [k10 4 (by omega) (by omega), hpa2, zu_n (by omega), zu_n (by omega), f2 4 (by omega)]
              rfl
            rcases r_cost h k1 k6 hpa3 hpa4 with ⟨q3, pa3, rd3, r, co, w1, w2, w3, w4, w5, w6, w7, w8, w9, w10⟩ | ⟨q3, pa3, rd3, w1, w4, w5⟩
            · refine Or.inl ⟨q3, pa3, rd3, w1, w4, w5, w6, ?_, sh', d1, r, co, E, s2, by omega, w2, w3, k2, k3, ?_, ?_, ?_, w8, w9, fun e he => zEf_cg (k9 e he) fun c hc1 hc2 => w10 c (by omega) (by omega)⟩
              · rw [w7, k8, w10 2 (by omega) (by omega), k7]
              · rw [w10 0 (by omega) (by omega), k10 0 (by omega) (by omega), hpa2, zu_n (by omega), zu_s]
              · rw [w10 1 (by omega) (by omega), k10 1 (by omega) (by omega), hpa2, zu_s]
              · rw [w10 2 (by omega) (by omega), k7]
            · exact Or.inr ⟨q3, pa3, rd3, w1, w4, w5⟩
          · rw [k4, k5, Option.bind_some]
            dsimp only
            rw [if_pos rfl]
            exact Or.inr ⟨q', pa', rd', k1, rfl, rfl⟩
        · rw [show k_Tp_skip _ 58 = _ from u3, show k_Mo_skips _ 58 = _ from u4, Option.bind_some, Option.bind_some]
          dsimp only
          rw [if_pos rfl, if_pos rfl]
          exact Or.inr ⟨_, _, _, by omega, rfl, rfl⟩
      · rw [show k_Tp_readDigit _ 1 0 5 = _ from d4, show k_Mo_takes _ 1 0 5 = _ from d5, Option.bind_some, Option.bind_some]
        dsimp only
        rw [if_pos rfl, if_pos rfl]
        exact Or.inr ⟨_, _, _, by omega, rfl, rfl⟩
    · refine absurd s3 ?_
      by_cases hl0 : 0 < l
      · rw [if_pos hl0]
        exact t1 hl0
      · rw [if_neg hl0]
        exact zm1_n (by omega)
  · rw [s4] at f4
    have hsh := Option.some.inj f4
    rw [← hsh, if_pos (show (-1 : Int32) < 0 by decide), s5 _ hpk]
    have hset : k_Tp_setPart (B, y, nI l, 0) 0 (-1) = some (B, upd y 0 (-1), nI l, nI 0) := tp_set (c := 0) (q := 0) (by omega)
    unfold k_Tp_readShape_46
    rw [hset, Option.bind_some, if_pos (show (-1 : Int32) < 0 by decide), Option.bind_some]
    dsimp only
    rw [if_pos rfl]
    exact Or.inr ⟨0, _, upd rd 0 (-1), by omega, rfl, by rw [zmS_u3]⟩
