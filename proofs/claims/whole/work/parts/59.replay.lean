theorem za1 (a b c v : Int32) : (a + v) - b + c = (a - b + c) + v := by grind
theorem za2 (a b c v : Int32) : a - (b + v) + c = (a - b + c) - v := by grind
theorem za3 (a b c v : Int32) : a - b + (c + v) = (a - b + c) + v := by grind
theorem za4 (a b v : Int32) : (a + v) - b = (a - b) + v := by grind
theorem za5 (a b v : Int32) : a - (b + v) = (a - b) - v := by grind
theorem z_kk {a b : Nat} (ha : a < 11) (hb : b < 11) : (nI a = nI b) = (a = b) := propext (nI_eq (by omega) (by omega))
theorem r_life_lp {j : zsT} {m : zsM} {N f : Nat} {kk ff vv : Nat → Nat} (h : zJN j m N kk ff vv) (hf : f < 8) : ∀ (d i fu fu' : Nat) (s0 s1 s2 : Int32), i + d = N → d < fu → d < fu' → ∃ S0 S1 S2, k_Jo_sumOf_5 j (nI 0) (nI f) fu s0 (nI i) = some S0 ∧ k_Jo_sumOf_5 j (nI 1) (nI f) fu s1 (nI i) = some S1 ∧ k_Jo_sumOf_5 j (nI 2) (nI f) fu s2 (nI i) = some S2 ∧ k_Mo_replayed_51 (nI f) 0 fu' (s0 - s1 + s2) (nI i) m = some (S0 - S1 + S2, m) := by
  intro d
  induction d with
  | zero =>
    intro i fu fu' s0 s1 s2 hi h1 h2
    obtain ⟨fu, rfl, -⟩ := z_fuS h1
    obtain ⟨fu', rfl, -⟩ := z_fuS h2
    have hN := h.1
    have hlt : ¬ nI i < nI N := nI_nlt (by omega) (by omega)
    refine ⟨s0, s1, s2, ?_, ?_, ?_, ?_⟩
    · simp only [k_Jo_sumOf_5]
      rw [h.2.1, if_neg hlt]
    · simp only [k_Jo_sumOf_5]
      rw [h.2.1, if_neg hlt]
    · simp only [k_Jo_sumOf_5]
      rw [h.2.1, if_neg hlt]
    · simp only [k_Mo_replayed_51]
      rw [h.2.2.1, if_neg hlt]
  | succ d ih =>
    intro i fu fu' s0 s1 s2 hi h1 h2
    obtain ⟨fu, rfl, h1'⟩ := z_fuS h1
    obtain ⟨fu', rfl, h2'⟩ := z_fuS h2
    obtain ⟨g1, -⟩ := h.2.2.2 i (by omega)
    rw [jn_sum h (by omega) (by omega) hf, jn_sum h (by omega) (by omega) hf, jn_sum h (by omega) (by omega) hf, jn_rep h (by omega) hf]
    by_cases a : ff i = f
    · rw [if_pos a]
      simp only [a, and_true, k_Mo_replays, if_true, show (0 : Int32) = nI 0 from rfl, z_1, z_2, z_kk g1 (show 0 < 11 by omega), z_kk g1 (show 1 < 11 by omega), z_kk g1 (show 2 < 11 by omega)]
      by_cases a0 : kk i = 0
      · simp only [a0, if_true, if_neg (show ¬ (0 : Nat) = 1 by omega), if_neg (show ¬ (0 : Nat) = 2 by omega), Option.bind_some, ← za1]
        exact ih (i + 1) fu fu' _ _ _ (by omega) (by omega) (by omega)
      · by_cases a2 : kk i = 2
        · simp only [a2, if_true, if_neg (show ¬ (2 : Nat) = 1 by omega), if_neg (show ¬ (2 : Nat) = 0 by omega), Option.bind_some, ← za3]
          exact ih (i + 1) fu fu' _ _ _ (by omega) (by omega) (by omega)
        · by_cases a1 : kk i = 1
          · simp only [a1, if_true, if_neg (show ¬ (1 : Nat) = 2 by omega), if_neg (show ¬ (1 : Nat) = 0 by omega), Option.bind_some, ← za2]
            exact ih (i + 1) fu fu' _ _ _ (by omega) (by omega) (by omega)
          · simp only [if_neg a0, if_neg a1, if_neg a2, Option.bind_some]
            exact ih (i + 1) fu fu' _ _ _ (by omega) (by omega) (by omega)
    · rw [if_neg a]
      simp only [a, and_false, if_false]
      exact ih (i + 1) fu fu' _ _ _ (by omega) (by omega) (by omega)
theorem r_spent_lp {j : zsT} {m : zsM} {N f : Nat} {kk ff vv : Nat → Nat} (h : zJN j m N kk ff vv) (hf : f < 8) : ∀ (d i fu fu' : Nat) (s0 s1 : Int32), i + d = N → d < fu → d < fu' → ∃ S0 S1, k_Jo_sumOfAmounts_5 j (nI 5) (nI f) fu s0 (nI i) = some S0 ∧ k_Jo_sumOfAmounts_5 j (nI 6) (nI f) fu s1 (nI i) = some S1 ∧ k_Mo_replayed_51 (nI f) 2 fu' (s0 - s1) (nI i) m = some (S0 - S1, m) := by
  intro d
  induction d with
  | zero =>
    intro i fu fu' s0 s1 hi h1 h2
    obtain ⟨fu, rfl, -⟩ := z_fuS h1
    obtain ⟨fu', rfl, -⟩ := z_fuS h2
    have hN := h.1
    have hlt : ¬ nI i < nI N := nI_nlt (by omega) (by omega)
    refine ⟨s0, s1, ?_, ?_, ?_⟩
    · simp only [k_Jo_sumOfAmounts_5]
      rw [h.2.1, if_neg hlt]
    · simp only [k_Jo_sumOfAmounts_5]
      rw [h.2.1, if_neg hlt]
    · simp only [k_Mo_replayed_51]
      rw [h.2.2.1, if_neg hlt]
  | succ d ih =>
    intro i fu fu' s0 s1 hi h1 h2
    obtain ⟨fu, rfl, h1'⟩ := z_fuS h1
    obtain ⟨fu', rfl, h2'⟩ := z_fuS h2
    obtain ⟨g1, -⟩ := h.2.2.2 i (by omega)
    rw [jn_amt h (by omega) (by omega) hf, jn_amt h (by omega) (by omega) hf, jn_rep h (by omega) hf]
    by_cases a : ff i = f
    · rw [if_pos a]
      simp only [a, and_true, k_Mo_replays]
      rw [if_neg (show ¬ (2 : Int32) = 0 by decide), if_neg (show ¬ (2 : Int32) = 1 by decide), if_pos trivial]
      simp only [show (5 : Int32) = nI 5 from rfl, show (6 : Int32) = nI 6 from rfl, z_kk g1 (show 5 < 11 by omega), z_kk g1 (show 6 < 11 by omega)]
      by_cases a0 : kk i = 5
      · simp only [a0, if_true, if_neg (show ¬ (5 : Nat) = 6 by omega), Option.bind_some, ← za4]
        exact ih (i + 1) fu fu' _ _ (by omega) (by omega) (by omega)
      · by_cases a2 : kk i = 6
        · simp only [a2, if_true, if_neg (show ¬ (6 : Nat) = 5 by omega), Option.bind_some, ← za5]
          exact ih (i + 1) fu fu' _ _ (by omega) (by omega) (by omega)
        · simp only [if_neg a0, if_neg a2, Option.bind_some]
          exact ih (i + 1) fu fu' _ _ (by omega) (by omega) (by omega)
    · rw [if_neg a]
      simp only [a, and_false, if_false]
      exact ih (i + 1) fu fu' _ _ (by omega) (by omega) (by omega)
theorem r_num_lp {j : zsT} {m : zsM} {N f kd : Nat} {kk ff vv : Nat → Nat} {w : Int32} (h : zJN j m N kk ff vv) (hf : f < 8) (hkd : kd < 11) (hw : ∀ s k v, k < 11 → k_Mo_replays s w (nI k) v = some (if k = kd then s + 1 else s)) : ∀ (d i fu fu' : Nat) (s : Int32), i + d = N → d < fu → d < fu' → ∃ S, k_Jo_numberOf_5 j (nI kd) (nI f) fu s (nI i) = some S ∧ k_Mo_replayed_51 (nI f) w fu' s (nI i) m = some (S, m) := by
  intro d
  induction d with
  | zero =>
    intro i fu fu' s hi h1 h2
    obtain ⟨fu, rfl, -⟩ := z_fuS h1
    obtain ⟨fu', rfl, -⟩ := z_fuS h2
    have hN := h.1
    have hlt : ¬ nI i < nI N := nI_nlt (by omega) (by omega)
    refine ⟨s, ?_, ?_⟩
    · simp only [k_Jo_numberOf_5]
      rw [h.2.1, if_neg hlt]
    · simp only [k_Mo_replayed_51]
      rw [h.2.2.1, if_neg hlt]
  | succ d ih =>
    intro i fu fu' s hi h1 h2
    obtain ⟨fu, rfl, h1'⟩ := z_fuS h1
    obtain ⟨fu', rfl, h2'⟩ := z_fuS h2
    obtain ⟨g1, -⟩ := h.2.2.2 i (by omega)
    rw [jn_num h (by omega) hkd hf, jn_rep h (by omega) hf]
    by_cases a : ff i = f
    · rw [if_pos a, hw _ _ _ g1, Option.bind_some]
      simp only [a, and_true]
      exact ih (i + 1) fu fu' _ (by omega) (by omega) (by omega)
    · rw [if_neg a]
      simp only [a, and_false, if_false]
      exact ih (i + 1) fu fu' _ (by omega) (by omega) (by omega)
theorem r_mov_lp {j : zsT} {m : zsM} {N f : Nat} {kk ff vv : Nat → Nat} (h : zJN j m N kk ff vv) (hf : f < 8) : ∀ (d i fu fu' : Nat) (s : Int32), i + d = N → d < fu → d < fu' → ∃ S, k_Jo_latestMoveOf_5 j (nI f) fu s (nI i) = some S ∧ k_Mo_replayed_51 (nI f) 3 fu' s (nI i) m = some (S, m) := by
  intro d
  induction d with
  | zero =>
    intro i fu fu' s hi h1 h2
    obtain ⟨fu, rfl, -⟩ := z_fuS h1
    obtain ⟨fu', rfl, -⟩ := z_fuS h2
    have hN := h.1
    have hlt : ¬ nI i < nI N := nI_nlt (by omega) (by omega)
    refine ⟨s, ?_, ?_⟩
    · simp only [k_Jo_latestMoveOf_5]
      rw [h.2.1, if_neg hlt]
    · simp only [k_Mo_replayed_51]
      rw [h.2.2.1, if_neg hlt]
  | succ d ih =>
    intro i fu fu' s hi h1 h2
    obtain ⟨fu, rfl, h1'⟩ := z_fuS h1
    obtain ⟨fu', rfl, h2'⟩ := z_fuS h2
    obtain ⟨g1, -⟩ := h.2.2.2 i (by omega)
    rw [jn_mov h (by omega) hf, jn_rep h (by omega) hf]
    by_cases a : ff i = f
    · rw [if_pos a]
      have hw : k_Mo_replays s 3 (nI (kk i)) (nI (vv i)) = some (if kk i = 7 then nI (vv i) else s) := by
        unfold k_Mo_replays
        rw [if_neg (show ¬ (3 : Int32) = 0 by decide), if_neg (show ¬ (3 : Int32) = 1 by decide), if_neg (show ¬ (3 : Int32) = 2 by decide), if_pos rfl, z_7]
        by_cases a7 : kk i = 7
        · rw [if_pos (by rw [a7]), if_pos a7]
        · rw [if_neg (fun e => a7 ((nI_eq (by omega) (by omega)).1 e)), if_neg a7]
      rw [hw, Option.bind_some]
      simp only [a, and_true]
      exact ih (i + 1) fu fu' _ (by omega) (by omega) (by omega)
    · rw [if_neg a]
      simp only [a, and_false, if_false]
      exact ih (i + 1) fu fu' _ (by omega) (by omega) (by omega)
theorem zrp1 (s v : Int32) (k : Nat) (hk : k < 11) : k_Mo_replays s 1 (nI k) v = some (if k = 1 then s + 1 else s) := by
  unfold k_Mo_replays
  rw [if_neg (show ¬ (1 : Int32) = 0 by decide), if_pos rfl]
  by_cases a : k = 1
  · rw [if_pos (by rw [a]; rfl), if_pos a]
  · rw [if_neg (show ¬ nI k = (1 : Int32) from fun e => a ((nI_eq (b := 1) (by omega) (by omega)).1 e)), if_neg a]
theorem zrp4 (s v : Int32) (k : Nat) (hk : k < 11) : k_Mo_replays s 4 (nI k) v = some (if k = 8 then s + 1 else s) := by
  unfold k_Mo_replays
  rw [if_neg (show ¬ (4 : Int32) = 0 by decide), if_neg (show ¬ (4 : Int32) = 1 by decide), if_neg (show ¬ (4 : Int32) = 2 by decide), if_neg (show ¬ (4 : Int32) = 3 by decide), if_pos rfl]
  by_cases a : k = 8
  · rw [if_pos (by rw [a]; rfl), if_pos a]
  · rw [if_neg (show ¬ nI k = (8 : Int32) from fun e => a ((nI_eq (b := 8) (by omega) (by omega)).1 e)), if_neg a]
theorem zrp5 (s v : Int32) (k : Nat) (hk : k < 11) : k_Mo_replays s 5 (nI k) v = some (if k = 3 then s + 1 else s) := by
  unfold k_Mo_replays
  rw [if_neg (show ¬ (5 : Int32) = 0 by decide), if_neg (show ¬ (5 : Int32) = 1 by decide), if_neg (show ¬ (5 : Int32) = 2 by decide), if_neg (show ¬ (5 : Int32) = 3 by decide), if_neg (show ¬ (5 : Int32) = 4 by decide)]
  by_cases a : k = 3
  · rw [if_pos (by rw [a]; rfl), if_pos a]
  · rw [if_neg (show ¬ nI k = (3 : Int32) from fun e => a ((nI_eq (b := 3) (by omega) (by omega)).1 e)), if_neg a]
theorem op_replayed : OP_replayed zRR := by
  intro k x m a1 a2 hk h
  have hm := zRR_mono h
  obtain ⟨P, I, R, W, ⟨⟨⟨⟨j, c, p⟩, t, fi⟩, o, ei⟩, w, pw, rs⟩, K, sv⟩ := x
  obtain ⟨⟨F, ⟨hJ, -, hr, -⟩, -⟩, -⟩ := id h
  dsimp only at hJ hr
  have hF := hr.1
  obtain ⟨N, j2, j3, hN, hJN⟩ := zJN_of hJ (by omega)
  have hrf := zRR_refuse (W' := W) (m1 := m) 10 h rfl (fun _ _ _ => rfl)
  unfold k_EL_replayed k_Mo_replayed
  dsimp only
  rcases fi_has (c3 := (j, c, p)) (fi := fi) a1 hr with ⟨f, hf, rfl, e1, e2⟩ | ⟨e1, e2⟩
  · rw [e1, e2, Option.bind_some, Option.bind_some, if_neg (show ¬ (1 : Int32) = 0 by decide), if_neg (show ¬ (1 : Int32) = 0 by decide)]
    unfold k_Mo_isBetween
    by_cases e3 : a2 < 0
    · rw [if_pos e3, if_pos e3]
      exact ⟨_, _, _, rfl, rfl, hm⟩
    · rw [if_neg e3, if_neg e3]
      by_cases e4 : 5 < a2
      · rw [if_pos e4, if_pos e4]
        exact ⟨_, _, _, rfl, rfl, hm⟩
      · rw [if_neg e4, if_neg e4, Option.bind_some, if_neg (show ¬ (1 : Int32) = 0 by decide)]
        unfold k_Jo_keepsAll
        rw [j2, j3]
        by_cases e5 : 300 < N
        · rw [if_pos (show (300 : Int32) < nI N from nI_lt (a := 300) e5 (by omega)), Option.bind_some, if_pos rfl, if_pos (show (300 : Int32) < nI N from nI_lt (a := 300) e5 (by omega))]
          exact ⟨_, _, _, rfl, rfl, hrf⟩
        · rw [if_neg (show ¬ (300 : Int32) < nI N from nI_nlt (a := 300) (by omega) (by omega)), Option.bind_some, if_neg (show ¬ (1 : Int32) = 0 by decide), if_neg (show ¬ (300 : Int32) < nI N from nI_nlt (a := 300) (by omega) (by omega))]
          obtain ⟨kk, ff, vv, hj⟩ := hJN (by omega)
          obtain ⟨q, hq, rfl⟩ := nI_of e3
          have hq5 : q ≤ 5 := by
            by_cases hq6 : q ≤ 5
            · exact hq6
            · exact absurd (show (5 : Int32) < nI q from nI_lt (a := 5) (by omega) (by omega)) e4
          have hq6 : q = 0 ∨ q = 1 ∨ q = 2 ∨ q = 3 ∨ q = 4 ∨ q = 5 := by omega
          rcases hq6 with rfl | rfl | rfl | rfl | rfl | rfl
          · obtain ⟨S0, S1, S2, s1, s2, s3, s4⟩ := r_life_lp hj (show f < 8 by omega) N 0 zFu zFu 0 0 0 (by omega) (z_fu (by omega)) (z_fu (by omega))
            rw [if_pos (show nI 0 = 0 from rfl), if_neg (show ¬ nI 0 = 3 by decide)]
            unfold k_Jo_lifeOf k_Jo_sumOf
            rw [show k_Jo_sumOf_5 j 0 (nI f) zFu 0 0 = _ from s1, Option.bind_some, show k_Jo_sumOf_5 j 1 (nI f) zFu 0 0 = _ from s2, Option.bind_some, show k_Jo_sumOf_5 j 2 (nI f) zFu 0 0 = _ from s3, Option.bind_some, Option.bind_some]
            exact ⟨_, _, _, rfl, s4, hm⟩
          · obtain ⟨S, s1, s2⟩ := r_num_lp hj (show f < 8 by omega) (kd := 1) (by omega) (fun s k v hk => zrp1 s v k hk) N 0 zFu zFu 0 (by omega) (z_fu (by omega)) (z_fu (by omega))
            rw [if_neg (show ¬ nI 1 = 0 by decide), if_pos (show nI 1 = 1 from rfl), if_neg (show ¬ nI 1 = 3 by decide)]
            unfold k_Jo_numberOf
            rw [show k_Jo_numberOf_5 j 1 (nI f) zFu 0 0 = _ from s1, Option.bind_some]
            exact ⟨_, _, _, rfl, s2, hm⟩
          · obtain ⟨S0, S1, s1, s2, s3⟩ := r_spent_lp hj (show f < 8 by omega) N 0 zFu zFu 0 0 (by omega) (z_fu (by omega)) (z_fu (by omega))
            rw [if_neg (show ¬ nI 2 = 0 by decide), if_neg (show ¬ nI 2 = 1 by decide), if_pos (show nI 2 = 2 from rfl), if_neg (show ¬ nI 2 = 3 by decide)]
            unfold k_Jo_spentBy k_Jo_sumOfAmounts
            rw [show k_Jo_sumOfAmounts_5 j 5 (nI f) zFu 0 0 = _ from s1, Option.bind_some, show k_Jo_sumOfAmounts_5 j 6 (nI f) zFu 0 0 = _ from s2, Option.bind_some, Option.bind_some]
            exact ⟨_, _, _, rfl, s3, hm⟩
          · obtain ⟨S, s1, s2⟩ := r_mov_lp hj (show f < 8 by omega) N 0 zFu zFu (-5) (by omega) (z_fu (by omega)) (z_fu (by omega))
            rw [if_neg (show ¬ nI 3 = 0 by decide), if_neg (show ¬ nI 3 = 1 by decide), if_neg (show ¬ nI 3 = 2 by decide), if_pos (show nI 3 = 3 from rfl), if_pos (show nI 3 = 3 from rfl)]
            unfold k_Jo_latestMoveOf
            rw [show k_Jo_latestMoveOf_5 j (nI f) zFu (-5) 0 = _ from s1, Option.bind_some]
            exact ⟨_, _, _, rfl, s2, hm⟩
          · obtain ⟨S, s1, s2⟩ := r_num_lp hj (show f < 8 by omega) (kd := 8) (by omega) (fun s k v hk => zrp4 s v k hk) N 0 zFu zFu 0 (by omega) (z_fu (by omega)) (z_fu (by omega))
            rw [if_neg (show ¬ nI 4 = 0 by decide), if_neg (show ¬ nI 4 = 1 by decide), if_neg (show ¬ nI 4 = 2 by decide), if_neg (show ¬ nI 4 = 3 by decide), if_pos (show nI 4 = 4 from rfl), if_neg (show ¬ nI 4 = 3 by decide)]
            unfold k_Jo_numberOf
            rw [show k_Jo_numberOf_5 j 8 (nI f) zFu 0 0 = _ from s1, Option.bind_some]
            exact ⟨_, _, _, rfl, s2, hm⟩
          · obtain ⟨S, s1, s2⟩ := r_num_lp hj (show f < 8 by omega) (kd := 3) (by omega) (fun s k v hk => zrp5 s v k hk) N 0 zFu zFu 0 (by omega) (z_fu (by omega)) (z_fu (by omega))
            rw [if_neg (show ¬ nI 5 = 0 by decide), if_neg (show ¬ nI 5 = 1 by decide), if_neg (show ¬ nI 5 = 2 by decide), if_neg (show ¬ nI 5 = 3 by decide), if_neg (show ¬ nI 5 = 4 by decide), if_neg (show ¬ nI 5 = 3 by decide)]
            unfold k_Jo_numberOf
            rw [show k_Jo_numberOf_5 j 3 (nI f) zFu 0 0 = _ from s1, Option.bind_some]
            exact ⟨_, _, _, rfl, s2, hm⟩
  · rw [e1, e2, Option.bind_some, Option.bind_some, if_pos rfl, if_pos rfl]
    exact ⟨_, _, _, rfl, rfl, hm⟩
