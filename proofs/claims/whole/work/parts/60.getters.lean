theorem en_isOn {q : Nat} {f3 : zsF} {o : zsT} {ei : Nat → Int32} (h : ei 4 = nI q) (hq : q < 2 ^ 31) : k_En_isOn (f3, o, ei) = some (if q = 0 then 0 else 1) := by
  simp only [k_En_isOn, h]
  by_cases h0 : q = 0
  · rw [if_pos h0, if_neg (show ¬ (0 : Int32) < nI q from nI_nlt (a := 0) (by omega) (by omega))]
  · rw [if_neg h0, if_pos (show (0 : Int32) < nI q from nI_lt (a := 0) (by omega) (by omega))]
theorem op_turn : OP_turn zRR := by
  intro k x m a1 hk h
  have hm := zRR_mono h
  obtain ⟨P, I, R, W, ⟨⟨⟨⟨j, c, p⟩, t, fi⟩, o, ei⟩, w, pw, rs⟩, K, sv⟩ := x
  obtain ⟨⟨F, ⟨-, hc, hr, -⟩, ⟨ea, -, -, -, M, hMF, ho, hon⟩, -⟩, -⟩ := id h
  dsimp only at hc hr ea ho hon
  have hF := hr.1
  unfold k_EL_turn k_Mo_turn
  by_cases e0 : a1 < 0
  · rw [if_pos e0, if_pos e0]
    exact ⟨_, rfl, rfl, hm⟩
  · rw [if_neg e0, if_neg e0]
    obtain ⟨q, hq, rfl⟩ := nI_of e0
    have hcls : (if (3 : Int32) < nI q then (if nI q < (10 : Int32) then some ((-1 : Int32)) else k_EL_turn_17 (P, I, R, W, ((((j, c, p), t, fi), o, ei), w, pw, rs), K, sv) (nI q)) else k_EL_turn_17 (P, I, R, W, ((((j, c, p), t, fi), o, ei), w, pw, rs), K, sv) (nI q)) = if 4 ≤ q ∧ q ≤ 9 then some (-1) else k_EL_turn_17 (P, I, R, W, ((((j, c, p), t, fi), o, ei), w, pw, rs), K, sv) (nI q) := by
      by_cases g1 : 3 < q
      · rw [if_pos (show (3 : Int32) < nI q from nI_lt (a := 3) g1 (by omega))]
        by_cases g2 : q < 10
        · rw [if_pos (show nI q < 10 from nI_lt (b := 10) g2 (by omega)), if_pos (by omega)]
        · rw [if_neg (show ¬ nI q < 10 from nI_nlt (b := 10) (by omega) (by omega)), if_neg (by omega)]
      · rw [if_neg (show ¬ (3 : Int32) < nI q from nI_nlt (a := 3) (by omega) (by omega)), if_neg (by omega)]
    have hbt : k_Mo_isBetween (nI q) 4 9 = some (if 4 ≤ q ∧ q ≤ 9 then 1 else 0) := by
      unfold k_Mo_isBetween
      by_cases g1 : q < 4
      · rw [if_pos (show nI q < 4 from nI_lt (b := 4) g1 (by omega)), if_neg (by omega)]
      · rw [if_neg (show ¬ nI q < 4 from nI_nlt (b := 4) (by omega) (by omega))]
        by_cases g2 : 9 < q
        · rw [if_pos (show (9 : Int32) < nI q from nI_lt (a := 9) g2 (by omega)), if_neg (by omega)]
        · rw [if_neg (show ¬ (9 : Int32) < nI q from nI_nlt (a := 9) (by omega) (by omega)), if_pos (by omega)]
    rw [hcls, hbt, Option.bind_some]
    by_cases g : 4 ≤ q ∧ q ≤ 9
    · rw [if_pos g, if_pos g, if_neg (show ¬ (1 : Int32) = 0 by decide)]
      exact ⟨_, rfl, rfl, hm⟩
    · rw [if_neg g, if_neg g, if_pos rfl]
      unfold k_EL_turn_17
      dsimp only
      by_cases q0 : q = 0
      · subst q0
        rw [if_pos (show nI 0 = 0 from rfl), if_pos (show nI 0 = 0 from rfl)]
        rcases hon with ⟨-, n1, -, n3⟩ | ⟨n, r, -, -, -, n1, n2, -⟩
        · exact ⟨_, congrArg some n1, congrArg some n3, hm⟩
        · exact ⟨_, congrArg some n1, congrArg some n2, hm⟩
      · rw [if_neg (nI_ne0 (by omega) hq), if_neg (nI_ne0 (by omega) hq)]
        rcases hon with ⟨-, n1, n2, -⟩ | ⟨n, r, hn, hr0, hrk, n1, n2, n3, n4, n5, n6, n7⟩
        · rw [en_isOn n1 (by omega), Option.bind_some, if_pos rfl, if_pos rfl, n2, if_pos rfl]
          exact ⟨_, rfl, rfl, hm⟩
        · rw [en_isOn n1 (by omega), Option.bind_some, if_neg (show ¬ r = 0 by omega), if_neg (show ¬ (1 : Int32) = 0 by decide), n3, if_neg (show ¬ (1 : Int32) = 0 by decide)]
          obtain ⟨f, hf, hof, c1, c2⟩ := r_cur (f3 := ((j, c, p), t, fi)) ho hn n4 n5
          by_cases q1 : q = 1
          · subst q1
            rw [if_pos (show nI 1 = 1 from rfl), if_pos (show nI 1 = 1 from rfl), c1, c2]
            exact ⟨_, rfl, rfl, hm⟩
          · have d1 : ¬ nI q = (1 : Int32) := fun e => q1 ((nI_eq (b := 1) hq (by omega)).1 e)
            rw [if_neg d1, if_neg d1]
            by_cases q2 : q = 2
            · subst q2
              obtain ⟨v, v1, v2⟩ := r_left (P := P) (I := I) (R := R) (W := W) (w := w) (pw := pw) (rs := rs) (K := K) (sv := sv) (j := j) (p := p) (fi := fi) hc hr ho hMF hn n4 n5 n6
              rw [if_pos (show nI 2 = 2 from rfl), if_pos (show nI 2 = 2 from rfl), v1, v2]
              exact ⟨_, rfl, rfl, hm⟩
            · have d2 : ¬ nI q = (2 : Int32) := fun e => q2 ((nI_eq (b := 2) hq (by omega)).1 e)
              rw [if_neg d2, if_neg d2]
              by_cases q3 : q = 3
              · subst q3
                rw [if_pos (show nI 3 = 3 from rfl), if_pos (show nI 3 = 3 from rfl), ← n7]
                refine ⟨ei 7, ?_, rfl, hm⟩
                rcases ea with ea | ea
                · simp only [ea, if_true]
                · simp only [ea]
                  rfl
              · have d3 : ¬ nI q = (3 : Int32) := fun e => q3 ((nI_eq (b := 3) hq (by omega)).1 e)
                have hs : nI q - (10 : Int32) = nI (q - 10) := pk_sub (b := 10) (by omega)
                rw [if_neg d3, if_neg d3, hs]
                unfold k_En_atPlace
                dsimp only
                rw [ho.2.2.1]
                have hM8 := ho.1
                by_cases q4 : q - 10 < M
                · rw [ta_holds ho.2.1 q4 (by omega), Option.bind_some, if_neg (show ¬ (1 : Int32) = 0 by decide), show k_Ta_get 1 8 o (nI (q - 10)) 0 = _ from or_get ho.2.1 ho.1 q4, Option.bind_some, if_pos (nI_lt q4 (by omega)), if_neg (zo_in (by omega) (by omega)), nI_clamp (by omega), (ho.2.2.2.1 _ q4).1]
                  exact ⟨_, rfl, rfl, hm⟩
                · unfold k_Ta_holds
                  rw [ho.2.1, if_neg (z_ltz (by omega)), if_neg (nI_nlt (by omega) (by omega)), Option.bind_some, if_pos rfl, if_neg (nI_nlt (by omega) (by omega))]
                  exact ⟨_, rfl, rfl, hm⟩
theorem op_account : OP_account zRR := by
  intro k x m a1 hk h
  have hm := zRR_mono h
  obtain ⟨P, I, R, W, ⟨⟨⟨⟨j, c, p⟩, t, fi⟩, o, ei⟩, w, pw, rs⟩, K, sv⟩ := x
  obtain ⟨⟨F, ⟨-, hc, hr, -, h3, h4⟩, ⟨-, e8, e9, e10, -⟩, hw, -, hrs⟩, -⟩ := id h
  dsimp only at hc hr h3 h4 e8 e9 e10 hw hrs
  subst hrs
  unfold k_EL_account k_Mo_account
  dsimp only
  by_cases q0 : a1 = 0
  · rw [if_pos q0, if_pos q0]
    unfold k_Fi_size k_Ta_used
    dsimp only
    rw [hr.2.1, hr.2.2.1]
    exact ⟨_, rfl, rfl, hm⟩
  · rw [if_neg q0, if_neg q0]
    by_cases q1 : a1 = 1
    · obtain ⟨v, v1, v2⟩ := r_down (c3 := (j, c, p)) (fi := fi) a1 hr
      rw [if_pos q1, if_pos q1, v1, v2]
      exact ⟨_, rfl, rfl, hm⟩
    · rw [if_neg q1, if_neg q1]
      by_cases q2 : a1 = 2
      · obtain ⟨v, v1, v2⟩ := r_lives (c3 := (j, c, p)) (fi := fi) 0 hr
        rw [if_pos q2, if_pos q2, q2, v1, show (2 : Int32) - 2 = 0 from rfl, v2]
        exact ⟨_, rfl, rfl, hm⟩
      · rw [if_neg q2, if_neg q2]
        by_cases q3 : a1 = 3
        · obtain ⟨v, v1, v2⟩ := r_lives (c3 := (j, c, p)) (fi := fi) 1 hr
          rw [if_pos q3, if_pos q3, q3, v1, show (3 : Int32) - 2 = 1 from rfl, v2]
          exact ⟨_, rfl, rfl, hm⟩
        · rw [if_neg q3, if_neg q3, h3, h4, e8, e9, e10]
          by_cases q4 : a1 = 4
          · rw [if_pos q4, if_pos q4]
            exact ⟨_, rfl, rfl, hm⟩
          · rw [if_neg q4, if_neg q4]
            by_cases q5 : a1 = 5
            · rw [if_pos q5, if_pos q5]
              exact ⟨_, rfl, rfl, hm⟩
            · rw [if_neg q5, if_neg q5]
              by_cases q6 : a1 = 6
              · rw [if_pos q6, if_pos q6]
                exact ⟨_, rfl, rfl, hm⟩
              · rw [if_neg q6, if_neg q6]
                by_cases q7 : a1 = 7
                · rw [if_pos q7, if_pos q7]
                  exact ⟨_, rfl, rfl, hm⟩
                · rw [if_neg q7, if_neg q7]
                  by_cases q8 : a1 = 8
                  · rw [if_pos q8, if_pos q8]
                    exact ⟨_, rfl, rfl, hm⟩
                  · rw [if_neg q8, if_neg q8]
                    by_cases q9 : a1 = 9
                    · obtain ⟨v, v1, v2⟩ := r_walls (e4 := (((j, c, p), t, fi), o, ei)) (pw := pw) (rs := m.1 29) a1 hw
                      rw [if_pos q9, if_pos q9, v1, v2]
                      exact ⟨_, rfl, rfl, hm⟩
                    · rw [if_neg q9, if_neg q9]
                      by_cases q10 : a1 = 10
                      · rw [if_pos q10]
                        exact ⟨_, rfl, rfl, hm⟩
                      · rw [if_neg q10]
                        exact ⟨_, rfl, rfl, hm⟩
theorem op_fighter : OP_fighter zRR := by
  intro k x m a1 a2 hk h
  have hm := zRR_mono h
  obtain ⟨P, I, R, W, ⟨⟨⟨⟨j, c, p⟩, t, fi⟩, o, ei⟩, w, pw, rs⟩, K, sv⟩ := x
  obtain ⟨⟨F, ⟨-, hc, hr, -⟩, ⟨-, -, -, -, M, hMF, ho, -⟩, -⟩, -⟩ := id h
  dsimp only at hc hr ho
  have hF := hr.1
  unfold k_EL_fighter k_Mo_fighter
  dsimp only
  rcases fi_has (c3 := (j, c, p)) (fi := fi) a1 hr with ⟨f, hf, rfl, e1, e2⟩ | ⟨e1, e2⟩
  · rw [e1, e2, Option.bind_some, Option.bind_some, if_neg (show ¬ (1 : Int32) = 0 by decide), if_neg (show ¬ (1 : Int32) = 0 by decide)]
    obtain ⟨m1, m2, m3, m4, m5, m6, m7, m8⟩ := hr.2.2.2 f hf
    have G : ∀ q, q < 13 → k_Ta_get 13 104 t (nI f) (nI q) = some (t.1 (f * 13 + q)) := fun q hq => fi_get hr.2.1 hF hf hq
    have hz : ¬ zOut (nI f) 8 := zo_in (by omega) (by omega)
    have hcl : (nI f).toNatClampNeg = f := nI_clamp (by omega)
    by_cases e3 : a2 < 0
    · have n0 : ∀ n : Nat, n < 100 → ¬ a2 = nI n := fun n hn e => by
        rw [e] at e3
        exact z_ltz (by omega) e3
      have n1 : ∀ n : Nat, n < 100 → a2 < nI n := fun n hn => by
        rw [Int32.lt_iff_toInt_lt] at e3 ⊢
        rw [nI_toInt (by omega)]
        have : (0 : Int32).toInt = 0 := rfl
        omega
      refine ⟨-100, ?_, ?_, hm⟩
      · unfold k_EL_fighter_39 k_EL_fighter_70 k_EL_fighter_101 k_EL_fighter_129
        rw [if_pos e3, if_pos (show a2 < 10 from n1 10 (by omega)), if_pos (show a2 < 20 from n1 20 (by omega)), if_pos (show a2 < 30 from n1 30 (by omega)), if_neg (show ¬ a2 = 6 from n0 6 (by omega)), if_neg (show ¬ a2 = 7 from n0 7 (by omega)), if_neg (show ¬ a2 = 8 from n0 8 (by omega)), if_neg (show ¬ a2 = 9 from n0 9 (by omega))]
      · unfold k_Mo_fighterMore k_Mo_isBetween
        rw [if_neg (show ¬ a2 = 0 from n0 0 (by omega)), if_neg (show ¬ a2 = 1 from n0 1 (by omega)), if_neg (show ¬ a2 = 2 from n0 2 (by omega)), if_neg (show ¬ a2 = 3 from n0 3 (by omega)), if_neg (show ¬ a2 = 4 from n0 4 (by omega)), if_neg (show ¬ a2 = 5 from n0 5 (by omega)), if_neg (show ¬ a2 = 6 from n0 6 (by omega)), if_neg (show ¬ a2 = 7 from n0 7 (by omega)), if_neg (show ¬ a2 = 8 from n0 8 (by omega)), if_pos (show a2 < 10 from n1 10 (by omega)), if_pos (show a2 < 20 from n1 20 (by omega)), if_pos (show a2 < 30 from n1 30 (by omega)), if_neg (show ¬ a2 = 9 from n0 9 (by omega))]
        rfl
    · rw [if_neg e3]
      obtain ⟨q, hq, rfl⟩ := nI_of e3
      have L : ∀ n : Nat, n < 100 → (nI q < nI n) = (q < n) := fun n hn => propext ⟨fun e => by
        by_cases g : q < n
        · exact g
        · exact absurd e (nI_nlt (by omega) hq), fun e => nI_lt e (by omega)⟩
      have L' : ∀ n : Nat, n < 100 → (nI n < nI q) = (n < q) := fun n hn => propext ⟨fun e => by
        by_cases g : n < q
        · exact g
        · exact absurd e (nI_nlt (by omega) (by omega)), fun e => nI_lt e hq⟩
      have E : ∀ n : Nat, n < 100 → (nI q = nI n) = (q = n) := fun n hn => propext (nI_eq hq (by omega))
      simp only [k_EL_fighter_39, k_EL_fighter_70, k_EL_fighter_101, k_EL_fighter_129, k_Mo_fighterMore, k_Mo_isBetween, k_Fi_at, show (5 : Int32) < nI q ↔ 5 < q from by rw [← L' 5 (by omega)]; exact Iff.rfl, show nI q < (10 : Int32) ↔ q < 10 from by rw [← L 10 (by omega)]; exact Iff.rfl, show nI q < (13 : Int32) ↔ q < 13 from by rw [← L 13 (by omega)]; exact Iff.rfl, show nI q < (20 : Int32) ↔ q < 20 from by rw [← L 20 (by omega)]; exact Iff.rfl, show nI q < (23 : Int32) ↔ q < 23 from by rw [← L 23 (by omega)]; exact Iff.rfl, show nI q < (30 : Int32) ↔ q < 30 from by rw [← L 30 (by omega)]; exact Iff.rfl, show nI q < (36 : Int32) ↔ q < 36 from by rw [← L 36 (by omega)]; exact Iff.rfl, show (12 : Int32) < nI q ↔ 12 < q from by rw [← L' 12 (by omega)]; exact Iff.rfl, show (22 : Int32) < nI q ↔ 22 < q from by rw [← L' 22 (by omega)]; exact Iff.rfl, show (35 : Int32) < nI q ↔ 35 < q from by rw [← L' 35 (by omega)]; exact Iff.rfl, show nI q = (0 : Int32) ↔ q = 0 from by rw [← E 0 (by omega)]; exact Iff.rfl, show nI q = (1 : Int32) ↔ q = 1 from by rw [← E 1 (by omega)]; exact Iff.rfl, show nI q = (2 : Int32) ↔ q = 2 from by rw [← E 2 (by omega)]; exact Iff.rfl, show nI q = (3 : Int32) ↔ q = 3 from by rw [← E 3 (by omega)]; exact Iff.rfl, show nI q = (4 : Int32) ↔ q = 4 from by rw [← E 4 (by omega)]; exact Iff.rfl, show nI q = (5 : Int32) ↔ q = 5 from by rw [← E 5 (by omega)]; exact Iff.rfl, show nI q = (6 : Int32) ↔ q = 6 from by rw [← E 6 (by omega)]; exact Iff.rfl, show nI q = (7 : Int32) ↔ q = 7 from by rw [← E 7 (by omega)]; exact Iff.rfl, show nI q = (8 : Int32) ↔ q = 8 from by rw [← E 8 (by omega)]; exact Iff.rfl, show nI q = (9 : Int32) ↔ q = 9 from by rw [← E 9 (by omega)]; exact Iff.rfl, if_neg hz, hcl]
      have e01 : ((1 : Int32) = 0) = False := eq_false (by decide)
      have hc9 : q = 0 ∨ q = 1 ∨ q = 2 ∨ q = 3 ∨ q = 4 ∨ q = 5 ∨ q = 6 ∨ q = 7 ∨ q = 8 ∨ q = 9 ∨ 10 ≤ q ∧ q < 13 ∨ 13 ≤ q ∧ q < 20 ∨ 20 ≤ q ∧ q < 23 ∨ 23 ≤ q ∧ q < 30 ∨ 30 ≤ q ∧ q < 36 ∨ 36 ≤ q := by omega
      rcases hc9 with hcq | hcq | hcq | hcq | hcq | hcq | hcq | hcq | hcq | hcq | hcq | hcq | hcq | hcq | hcq | hcq
      · have x0 : (5 < q) = False := eq_false (by omega)
        have x1 : (q < 10) = True := eq_true (by omega)
        have x2 : (q < 13) = True := eq_true (by omega)
        have x3 : (q < 20) = True := eq_true (by omega)
        have x4 : (q < 23) = True := eq_true (by omega)
        have x5 : (q < 30) = True := eq_true (by omega)
        have x6 : (q < 36) = True := eq_true (by omega)
        have x7 : (12 < q) = False := eq_false (by omega)
        have x8 : (22 < q) = False := eq_false (by omega)
        have x9 : (35 < q) = False := eq_false (by omega)
        have x10 : (q = 0) = True := eq_true (by omega)
        have x11 : (q = 1) = False := eq_false (by omega)
        have x12 : (q = 2) = False := eq_false (by omega)
        have x13 : (q = 3) = False := eq_false (by omega)
        have x14 : (q = 4) = False := eq_false (by omega)
        have x15 : (q = 5) = False := eq_false (by omega)
        have x16 : (q = 6) = False := eq_false (by omega)
        have x17 : (q = 7) = False := eq_false (by omega)
        have x18 : (q = 8) = False := eq_false (by omega)
        have x19 : (q = 9) = False := eq_false (by omega)
        simp only [x0, x1, x2, x3, x4, x5, x6, x7, x8, x9, x10, x11, x12, x13, x14, x15, x16, x17, x18, x19, e01, ↓reduceIte, Option.bind_some]
        rw [hcq, G 0 (by omega), m1]
        exact ⟨_, rfl, rfl, hm⟩
      · have x0 : (5 < q) = False := eq_false (by omega)
        have x1 : (q < 10) = True := eq_true (by omega)
        have x2 : (q < 13) = True := eq_true (by omega)
        have x3 : (q < 20) = True := eq_true (by omega)
        have x4 : (q < 23) = True := eq_true (by omega)
        have x5 : (q < 30) = True := eq_true (by omega)
        have x6 : (q < 36) = True := eq_true (by omega)
        have x7 : (12 < q) = False := eq_false (by omega)
        have x8 : (22 < q) = False := eq_false (by omega)
        have x9 : (35 < q) = False := eq_false (by omega)
        have x10 : (q = 0) = False := eq_false (by omega)
        have x11 : (q = 1) = True := eq_true (by omega)
        have x12 : (q = 2) = False := eq_false (by omega)
        have x13 : (q = 3) = False := eq_false (by omega)
        have x14 : (q = 4) = False := eq_false (by omega)
        have x15 : (q = 5) = False := eq_false (by omega)
        have x16 : (q = 6) = False := eq_false (by omega)
        have x17 : (q = 7) = False := eq_false (by omega)
        have x18 : (q = 8) = False := eq_false (by omega)
        have x19 : (q = 9) = False := eq_false (by omega)
        simp only [x0, x1, x2, x3, x4, x5, x6, x7, x8, x9, x10, x11, x12, x13, x14, x15, x16, x17, x18, x19, e01, ↓reduceIte, Option.bind_some]
        rw [hcq, G 1 (by omega), m2]
        exact ⟨_, rfl, rfl, hm⟩
      · have x0 : (5 < q) = False := eq_false (by omega)
        have x1 : (q < 10) = True := eq_true (by omega)
        have x2 : (q < 13) = True := eq_true (by omega)
        have x3 : (q < 20) = True := eq_true (by omega)
        have x4 : (q < 23) = True := eq_true (by omega)
        have x5 : (q < 30) = True := eq_true (by omega)
        have x6 : (q < 36) = True := eq_true (by omega)
        have x7 : (12 < q) = False := eq_false (by omega)
        have x8 : (22 < q) = False := eq_false (by omega)
        have x9 : (35 < q) = False := eq_false (by omega)
        have x10 : (q = 0) = False := eq_false (by omega)
        have x11 : (q = 1) = False := eq_false (by omega)
        have x12 : (q = 2) = True := eq_true (by omega)
        have x13 : (q = 3) = False := eq_false (by omega)
        have x14 : (q = 4) = False := eq_false (by omega)
        have x15 : (q = 5) = False := eq_false (by omega)
        have x16 : (q = 6) = False := eq_false (by omega)
        have x17 : (q = 7) = False := eq_false (by omega)
        have x18 : (q = 8) = False := eq_false (by omega)
        have x19 : (q = 9) = False := eq_false (by omega)
        simp only [x0, x1, x2, x3, x4, x5, x6, x7, x8, x9, x10, x11, x12, x13, x14, x15, x16, x17, x18, x19, e01, ↓reduceIte, Option.bind_some]
        rw [hcq, G 2 (by omega), m3]
        exact ⟨_, rfl, rfl, hm⟩
      · have x0 : (5 < q) = False := eq_false (by omega)
        have x1 : (q < 10) = True := eq_true (by omega)
        have x2 : (q < 13) = True := eq_true (by omega)
        have x3 : (q < 20) = True := eq_true (by omega)
        have x4 : (q < 23) = True := eq_true (by omega)
        have x5 : (q < 30) = True := eq_true (by omega)
        have x6 : (q < 36) = True := eq_true (by omega)
        have x7 : (12 < q) = False := eq_false (by omega)
        have x8 : (22 < q) = False := eq_false (by omega)
        have x9 : (35 < q) = False := eq_false (by omega)
        have x10 : (q = 0) = False := eq_false (by omega)
        have x11 : (q = 1) = False := eq_false (by omega)
        have x12 : (q = 2) = False := eq_false (by omega)
        have x13 : (q = 3) = True := eq_true (by omega)
        have x14 : (q = 4) = False := eq_false (by omega)
        have x15 : (q = 5) = False := eq_false (by omega)
        have x16 : (q = 6) = False := eq_false (by omega)
        have x17 : (q = 7) = False := eq_false (by omega)
        have x18 : (q = 8) = False := eq_false (by omega)
        have x19 : (q = 9) = False := eq_false (by omega)
        simp only [x0, x1, x2, x3, x4, x5, x6, x7, x8, x9, x10, x11, x12, x13, x14, x15, x16, x17, x18, x19, e01, ↓reduceIte, Option.bind_some]
        rw [hcq, G 3 (by omega), m4]
        exact ⟨_, rfl, rfl, hm⟩
      · have x0 : (5 < q) = False := eq_false (by omega)
        have x1 : (q < 10) = True := eq_true (by omega)
        have x2 : (q < 13) = True := eq_true (by omega)
        have x3 : (q < 20) = True := eq_true (by omega)
        have x4 : (q < 23) = True := eq_true (by omega)
        have x5 : (q < 30) = True := eq_true (by omega)
        have x6 : (q < 36) = True := eq_true (by omega)
        have x7 : (12 < q) = False := eq_false (by omega)
        have x8 : (22 < q) = False := eq_false (by omega)
        have x9 : (35 < q) = False := eq_false (by omega)
        have x10 : (q = 0) = False := eq_false (by omega)
        have x11 : (q = 1) = False := eq_false (by omega)
        have x12 : (q = 2) = False := eq_false (by omega)
        have x13 : (q = 3) = False := eq_false (by omega)
        have x14 : (q = 4) = True := eq_true (by omega)
        have x15 : (q = 5) = False := eq_false (by omega)
        have x16 : (q = 6) = False := eq_false (by omega)
        have x17 : (q = 7) = False := eq_false (by omega)
        have x18 : (q = 8) = False := eq_false (by omega)
        have x19 : (q = 9) = False := eq_false (by omega)
        simp only [x0, x1, x2, x3, x4, x5, x6, x7, x8, x9, x10, x11, x12, x13, x14, x15, x16, x17, x18, x19, e01, ↓reduceIte, Option.bind_some]
        rw [hcq, G 4 (by omega), m5]
        exact ⟨_, rfl, rfl, hm⟩
      · have x0 : (5 < q) = False := eq_false (by omega)
        have x1 : (q < 10) = True := eq_true (by omega)
        have x2 : (q < 13) = True := eq_true (by omega)
        have x3 : (q < 20) = True := eq_true (by omega)
        have x4 : (q < 23) = True := eq_true (by omega)
        have x5 : (q < 30) = True := eq_true (by omega)
        have x6 : (q < 36) = True := eq_true (by omega)
        have x7 : (12 < q) = False := eq_false (by omega)
        have x8 : (22 < q) = False := eq_false (by omega)
        have x9 : (35 < q) = False := eq_false (by omega)
        have x10 : (q = 0) = False := eq_false (by omega)
        have x11 : (q = 1) = False := eq_false (by omega)
        have x12 : (q = 2) = False := eq_false (by omega)
        have x13 : (q = 3) = False := eq_false (by omega)
        have x14 : (q = 4) = False := eq_false (by omega)
        have x15 : (q = 5) = True := eq_true (by omega)
        have x16 : (q = 6) = False := eq_false (by omega)
        have x17 : (q = 7) = False := eq_false (by omega)
        have x18 : (q = 8) = False := eq_false (by omega)
        have x19 : (q = 9) = False := eq_false (by omega)
        simp only [x0, x1, x2, x3, x4, x5, x6, x7, x8, x9, x10, x11, x12, x13, x14, x15, x16, x17, x18, x19, e01, ↓reduceIte, Option.bind_some]
        rw [hcq, G 5 (by omega), m6]
        exact ⟨_, rfl, rfl, hm⟩
      · have x0 : (5 < q) = True := eq_true (by omega)
        have x1 : (q < 10) = True := eq_true (by omega)
        have x2 : (q < 13) = True := eq_true (by omega)
        have x3 : (q < 20) = True := eq_true (by omega)
        have x4 : (q < 23) = True := eq_true (by omega)
        have x5 : (q < 30) = True := eq_true (by omega)
        have x6 : (q < 36) = True := eq_true (by omega)
        have x7 : (12 < q) = False := eq_false (by omega)
        have x8 : (22 < q) = False := eq_false (by omega)
        have x9 : (35 < q) = False := eq_false (by omega)
        have x10 : (q = 0) = False := eq_false (by omega)
        have x11 : (q = 1) = False := eq_false (by omega)
        have x12 : (q = 2) = False := eq_false (by omega)
        have x13 : (q = 3) = False := eq_false (by omega)
        have x14 : (q = 4) = False := eq_false (by omega)
        have x15 : (q = 5) = False := eq_false (by omega)
        have x16 : (q = 6) = True := eq_true (by omega)
        have x17 : (q = 7) = False := eq_false (by omega)
        have x18 : (q = 8) = False := eq_false (by omega)
        have x19 : (q = 9) = False := eq_false (by omega)
        simp only [x0, x1, x2, x3, x4, x5, x6, x7, x8, x9, x10, x11, x12, x13, x14, x15, x16, x17, x18, x19, e01, ↓reduceIte, Option.bind_some]
        obtain ⟨v, v1, v2, v3⟩ := r_canAct (j := j) (p := p) (fi := fi) hc hr hf
        rw [v1, v2, Option.bind_some]
        rcases v3 with rfl | rfl
        · exact ⟨_, rfl, rfl, hm⟩
        · exact ⟨_, rfl, rfl, hm⟩
      · have x0 : (5 < q) = True := eq_true (by omega)
        have x1 : (q < 10) = True := eq_true (by omega)
        have x2 : (q < 13) = True := eq_true (by omega)
        have x3 : (q < 20) = True := eq_true (by omega)
        have x4 : (q < 23) = True := eq_true (by omega)
        have x5 : (q < 30) = True := eq_true (by omega)
        have x6 : (q < 36) = True := eq_true (by omega)
        have x7 : (12 < q) = False := eq_false (by omega)
        have x8 : (22 < q) = False := eq_false (by omega)
        have x9 : (35 < q) = False := eq_false (by omega)
        have x10 : (q = 0) = False := eq_false (by omega)
        have x11 : (q = 1) = False := eq_false (by omega)
        have x12 : (q = 2) = False := eq_false (by omega)
        have x13 : (q = 3) = False := eq_false (by omega)
        have x14 : (q = 4) = False := eq_false (by omega)
        have x15 : (q = 5) = False := eq_false (by omega)
        have x16 : (q = 6) = False := eq_false (by omega)
        have x17 : (q = 7) = True := eq_true (by omega)
        have x18 : (q = 8) = False := eq_false (by omega)
        have x19 : (q = 9) = False := eq_false (by omega)
        simp only [x0, x1, x2, x3, x4, x5, x6, x7, x8, x9, x10, x11, x12, x13, x14, x15, x16, x17, x18, x19, e01, ↓reduceIte, Option.bind_some]
        rcases r_place (f3 := ((j, c, p), t, fi)) (ei := ei) (nI f) ho with ⟨r, -, -, v1, v2⟩ | ⟨-, v1, v2⟩
        · rw [v1, v2]
          exact ⟨_, rfl, rfl, hm⟩
        · rw [v1, v2]
          exact ⟨_, rfl, rfl, hm⟩
      · have x0 : (5 < q) = True := eq_true (by omega)
        have x1 : (q < 10) = True := eq_true (by omega)
        have x2 : (q < 13) = True := eq_true (by omega)
        have x3 : (q < 20) = True := eq_true (by omega)
        have x4 : (q < 23) = True := eq_true (by omega)
        have x5 : (q < 30) = True := eq_true (by omega)
        have x6 : (q < 36) = True := eq_true (by omega)
        have x7 : (12 < q) = False := eq_false (by omega)
        have x8 : (22 < q) = False := eq_false (by omega)
        have x9 : (35 < q) = False := eq_false (by omega)
        have x10 : (q = 0) = False := eq_false (by omega)
        have x11 : (q = 1) = False := eq_false (by omega)
        have x12 : (q = 2) = False := eq_false (by omega)
        have x13 : (q = 3) = False := eq_false (by omega)
        have x14 : (q = 4) = False := eq_false (by omega)
        have x15 : (q = 5) = False := eq_false (by omega)
        have x16 : (q = 6) = False := eq_false (by omega)
        have x17 : (q = 7) = False := eq_false (by omega)
        have x18 : (q = 8) = True := eq_true (by omega)
        have x19 : (q = 9) = False := eq_false (by omega)
        simp only [x0, x1, x2, x3, x4, x5, x6, x7, x8, x9, x10, x11, x12, x13, x14, x15, x16, x17, x18, x19, e01, ↓reduceIte, Option.bind_some]
        rw [show k_Ta_get 13 104 t (nI f) 6 = _ from G 6 (by omega), m7]
        exact ⟨_, rfl, rfl, hm⟩
      · have x0 : (5 < q) = True := eq_true (by omega)
        have x1 : (q < 10) = True := eq_true (by omega)
        have x2 : (q < 13) = True := eq_true (by omega)
        have x3 : (q < 20) = True := eq_true (by omega)
        have x4 : (q < 23) = True := eq_true (by omega)
        have x5 : (q < 30) = True := eq_true (by omega)
        have x6 : (q < 36) = True := eq_true (by omega)
        have x7 : (12 < q) = False := eq_false (by omega)
        have x8 : (22 < q) = False := eq_false (by omega)
        have x9 : (35 < q) = False := eq_false (by omega)
        have x10 : (q = 0) = False := eq_false (by omega)
        have x11 : (q = 1) = False := eq_false (by omega)
        have x12 : (q = 2) = False := eq_false (by omega)
        have x13 : (q = 3) = False := eq_false (by omega)
        have x14 : (q = 4) = False := eq_false (by omega)
        have x15 : (q = 5) = False := eq_false (by omega)
        have x16 : (q = 6) = False := eq_false (by omega)
        have x17 : (q = 7) = False := eq_false (by omega)
        have x18 : (q = 8) = False := eq_false (by omega)
        have x19 : (q = 9) = True := eq_true (by omega)
        simp only [x0, x1, x2, x3, x4, x5, x6, x7, x8, x9, x10, x11, x12, x13, x14, x15, x16, x17, x18, x19, e01, ↓reduceIte, Option.bind_some]
        obtain ⟨L, ht, hmt, hg⟩ := hc
        obtain ⟨v, v1, v2⟩ := r_numberOf (j := j) (p := p) (nI f) (nI q) ht hmt (zGd_lr hg)
        rw [v1, v2]
        exact ⟨_, rfl, rfl, hm⟩
      · have x0 : (5 < q) = True := eq_true (by omega)
        have x1 : (q < 10) = False := eq_false (by omega)
        have x2 : (q < 13) = True := eq_true (by omega)
        have x3 : (q < 20) = True := eq_true (by omega)
        have x4 : (q < 23) = True := eq_true (by omega)
        have x5 : (q < 30) = True := eq_true (by omega)
        have x6 : (q < 36) = True := eq_true (by omega)
        have x7 : (12 < q) = False := eq_false (by omega)
        have x8 : (22 < q) = False := eq_false (by omega)
        have x9 : (35 < q) = False := eq_false (by omega)
        have x10 : (q = 0) = False := eq_false (by omega)
        have x11 : (q = 1) = False := eq_false (by omega)
        have x12 : (q = 2) = False := eq_false (by omega)
        have x13 : (q = 3) = False := eq_false (by omega)
        have x14 : (q = 4) = False := eq_false (by omega)
        have x15 : (q = 5) = False := eq_false (by omega)
        have x16 : (q = 6) = False := eq_false (by omega)
        have x17 : (q = 7) = False := eq_false (by omega)
        have x18 : (q = 8) = False := eq_false (by omega)
        have x19 : (q = 9) = False := eq_false (by omega)
        simp only [x0, x1, x2, x3, x4, x5, x6, x7, x8, x9, x10, x11, x12, x13, x14, x15, x16, x17, x18, x19, e01, ↓reduceIte, Option.bind_some]
        have y1 : (7 : Int32) + nI q - 10 = nI (7 + (q - 10)) := by
          rw [show (7 : Int32) + nI q = nI (7 + q) from nI_add 7 q, show (10 : Int32) = nI 10 from rfl, pk_sub (by omega)]
          congr 1
          omega
        have y2 : (3 : Int32) * nI f + nI q - 10 = nI (3 * f + (q - 10)) := by
          rw [show (3 : Int32) * nI f = nI (3 * f) from pk_mul 3 f, nI_add, show (10 : Int32) = nI 10 from rfl, pk_sub (by omega)]
          congr 1
          omega
        rw [y1, y2, G _ (by omega), if_neg (zo_in (by omega) (by omega)), nI_clamp (by omega), (m8 (q - 10) (by omega)).1]
        exact ⟨_, rfl, rfl, hm⟩
      · have x0 : (5 < q) = True := eq_true (by omega)
        have x1 : (q < 10) = False := eq_false (by omega)
        have x2 : (q < 13) = False := eq_false (by omega)
        have x3 : (q < 20) = True := eq_true (by omega)
        have x4 : (q < 23) = True := eq_true (by omega)
        have x5 : (q < 30) = True := eq_true (by omega)
        have x6 : (q < 36) = True := eq_true (by omega)
        have x7 : (12 < q) = True := eq_true (by omega)
        have x8 : (22 < q) = False := eq_false (by omega)
        have x9 : (35 < q) = False := eq_false (by omega)
        have x10 : (q = 0) = False := eq_false (by omega)
        have x11 : (q = 1) = False := eq_false (by omega)
        have x12 : (q = 2) = False := eq_false (by omega)
        have x13 : (q = 3) = False := eq_false (by omega)
        have x14 : (q = 4) = False := eq_false (by omega)
        have x15 : (q = 5) = False := eq_false (by omega)
        have x16 : (q = 6) = False := eq_false (by omega)
        have x17 : (q = 7) = False := eq_false (by omega)
        have x18 : (q = 8) = False := eq_false (by omega)
        have x19 : (q = 9) = False := eq_false (by omega)
        simp only [x0, x1, x2, x3, x4, x5, x6, x7, x8, x9, x10, x11, x12, x13, x14, x15, x16, x17, x18, x19, e01, ↓reduceIte, Option.bind_some]
        exact ⟨_, rfl, rfl, hm⟩
      · have x0 : (5 < q) = True := eq_true (by omega)
        have x1 : (q < 10) = False := eq_false (by omega)
        have x2 : (q < 13) = False := eq_false (by omega)
        have x3 : (q < 20) = False := eq_false (by omega)
        have x4 : (q < 23) = True := eq_true (by omega)
        have x5 : (q < 30) = True := eq_true (by omega)
        have x6 : (q < 36) = True := eq_true (by omega)
        have x7 : (12 < q) = True := eq_true (by omega)
        have x8 : (22 < q) = False := eq_false (by omega)
        have x9 : (35 < q) = False := eq_false (by omega)
        have x10 : (q = 0) = False := eq_false (by omega)
        have x11 : (q = 1) = False := eq_false (by omega)
        have x12 : (q = 2) = False := eq_false (by omega)
        have x13 : (q = 3) = False := eq_false (by omega)
        have x14 : (q = 4) = False := eq_false (by omega)
        have x15 : (q = 5) = False := eq_false (by omega)
        have x16 : (q = 6) = False := eq_false (by omega)
        have x17 : (q = 7) = False := eq_false (by omega)
        have x18 : (q = 8) = False := eq_false (by omega)
        have x19 : (q = 9) = False := eq_false (by omega)
        simp only [x0, x1, x2, x3, x4, x5, x6, x7, x8, x9, x10, x11, x12, x13, x14, x15, x16, x17, x18, x19, e01, ↓reduceIte, Option.bind_some]
        have y1 : (10 : Int32) + nI q - 20 = nI (10 + (q - 20)) := by
          rw [show (10 : Int32) + nI q = nI (10 + q) from nI_add 10 q, show (20 : Int32) = nI 20 from rfl, pk_sub (by omega)]
          congr 1
          omega
        have y2 : (3 : Int32) * nI f + nI q - 20 = nI (3 * f + (q - 20)) := by
          rw [show (3 : Int32) * nI f = nI (3 * f) from pk_mul 3 f, nI_add, show (20 : Int32) = nI 20 from rfl, pk_sub (by omega)]
          congr 1
          omega
        rw [y1, y2, G _ (by omega), if_neg (zo_in (by omega) (by omega)), nI_clamp (by omega), (m8 (q - 20) (by omega)).2]
        exact ⟨_, rfl, rfl, hm⟩
      · have x0 : (5 < q) = True := eq_true (by omega)
        have x1 : (q < 10) = False := eq_false (by omega)
        have x2 : (q < 13) = False := eq_false (by omega)
        have x3 : (q < 20) = False := eq_false (by omega)
        have x4 : (q < 23) = False := eq_false (by omega)
        have x5 : (q < 30) = True := eq_true (by omega)
        have x6 : (q < 36) = True := eq_true (by omega)
        have x7 : (12 < q) = True := eq_true (by omega)
        have x8 : (22 < q) = True := eq_true (by omega)
        have x9 : (35 < q) = False := eq_false (by omega)
        have x10 : (q = 0) = False := eq_false (by omega)
        have x11 : (q = 1) = False := eq_false (by omega)
        have x12 : (q = 2) = False := eq_false (by omega)
        have x13 : (q = 3) = False := eq_false (by omega)
        have x14 : (q = 4) = False := eq_false (by omega)
        have x15 : (q = 5) = False := eq_false (by omega)
        have x16 : (q = 6) = False := eq_false (by omega)
        have x17 : (q = 7) = False := eq_false (by omega)
        have x18 : (q = 8) = False := eq_false (by omega)
        have x19 : (q = 9) = False := eq_false (by omega)
        simp only [x0, x1, x2, x3, x4, x5, x6, x7, x8, x9, x10, x11, x12, x13, x14, x15, x16, x17, x18, x19, e01, ↓reduceIte, Option.bind_some]
        exact ⟨_, rfl, rfl, hm⟩
      · have x0 : (5 < q) = True := eq_true (by omega)
        have x1 : (q < 10) = False := eq_false (by omega)
        have x2 : (q < 13) = False := eq_false (by omega)
        have x3 : (q < 20) = False := eq_false (by omega)
        have x4 : (q < 23) = False := eq_false (by omega)
        have x5 : (q < 30) = False := eq_false (by omega)
        have x6 : (q < 36) = True := eq_true (by omega)
        have x7 : (12 < q) = True := eq_true (by omega)
        have x8 : (22 < q) = True := eq_true (by omega)
        have x9 : (35 < q) = False := eq_false (by omega)
        have x10 : (q = 0) = False := eq_false (by omega)
        have x11 : (q = 1) = False := eq_false (by omega)
        have x12 : (q = 2) = False := eq_false (by omega)
        have x13 : (q = 3) = False := eq_false (by omega)
        have x14 : (q = 4) = False := eq_false (by omega)
        have x15 : (q = 5) = False := eq_false (by omega)
        have x16 : (q = 6) = False := eq_false (by omega)
        have x17 : (q = 7) = False := eq_false (by omega)
        have x18 : (q = 8) = False := eq_false (by omega)
        have x19 : (q = 9) = False := eq_false (by omega)
        simp only [x0, x1, x2, x3, x4, x5, x6, x7, x8, x9, x10, x11, x12, x13, x14, x15, x16, x17, x18, x19, e01, ↓reduceIte, Option.bind_some]
        obtain ⟨L, ht, hmt, hg⟩ := hc
        obtain ⟨v, v1, v2⟩ := r_sumOf (j := j) (p := p) (nI f) (nI q - 30) ht hmt (zGd_lr hg)
        rw [v1, v2]
        exact ⟨_, rfl, rfl, hm⟩
      · have x0 : (5 < q) = True := eq_true (by omega)
        have x1 : (q < 10) = False := eq_false (by omega)
        have x2 : (q < 13) = False := eq_false (by omega)
        have x3 : (q < 20) = False := eq_false (by omega)
        have x4 : (q < 23) = False := eq_false (by omega)
        have x5 : (q < 30) = False := eq_false (by omega)
        have x6 : (q < 36) = False := eq_false (by omega)
        have x7 : (12 < q) = True := eq_true (by omega)
        have x8 : (22 < q) = True := eq_true (by omega)
        have x9 : (35 < q) = True := eq_true (by omega)
        have x10 : (q = 0) = False := eq_false (by omega)
        have x11 : (q = 1) = False := eq_false (by omega)
        have x12 : (q = 2) = False := eq_false (by omega)
        have x13 : (q = 3) = False := eq_false (by omega)
        have x14 : (q = 4) = False := eq_false (by omega)
        have x15 : (q = 5) = False := eq_false (by omega)
        have x16 : (q = 6) = False := eq_false (by omega)
        have x17 : (q = 7) = False := eq_false (by omega)
        have x18 : (q = 8) = False := eq_false (by omega)
        have x19 : (q = 9) = False := eq_false (by omega)
        simp only [x0, x1, x2, x3, x4, x5, x6, x7, x8, x9, x10, x11, x12, x13, x14, x15, x16, x17, x18, x19, e01, ↓reduceIte, Option.bind_some]
        exact ⟨_, rfl, rfl, hm⟩
  · rw [e1, e2, Option.bind_some, Option.bind_some, if_pos rfl, if_pos rfl]
    exact ⟨_, rfl, rfl, hm⟩
