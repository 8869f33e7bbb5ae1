theorem fi_has {F : Nat} {c3 : zsC} {t : zsT} {fi : Nat → Int32} {m : zsM} (a : Int32) (hr : zRF F t m) : (∃ f, f < F ∧ a = nI f ∧ k_Fi_has (c3, t, fi) a = some 1 ∧ k_Mo_isFighter m a = some 1) ∨ (k_Fi_has (c3, t, fi) a = some 0 ∧ k_Mo_isFighter m a = some 0) := by
  have hF := hr.1
  unfold k_Fi_has k_Ta_holds k_Mo_isFighter
  dsimp only
  rw [hr.2.1, hr.2.2.1]
  by_cases h0 : a < 0
  · rw [if_pos h0]
    exact Or.inr ⟨rfl, rfl⟩
  · rw [if_neg h0]
    obtain ⟨f, hf, rfl⟩ := nI_of h0
    by_cases h1 : f < F
    · rw [if_pos (nI_lt h1 (by omega))]
      exact Or.inl ⟨f, h1, rfl, rfl, rfl⟩
    · rw [if_neg (nI_nlt (by omega) (by omega))]
      exact Or.inr ⟨rfl, rfl⟩
theorem mo_entryP {m : zsM} {i k f v q : Nat} (hi : i < 300) (hk : k < 11) (hf : f < 8) (hv : v < 1000) (ha : m.2 13 i = nI (1000 * (8 * k + f) + v)) (hq : q < 3) : k_Mo_entryPart m (nI i) (nI q) = some (if q = 0 then nI k else if q = 1 then nI f else nI v) := by
  simp only [k_Mo_entryPart, if_neg (zo_in hi (show 300 < 2 ^ 31 by omega)), nI_clamp (show i < 2 ^ 31 by omega), ha, show (1000 : Int32) = nI 1000 from rfl, z_8]
  rw [pk_div (show 1000 * (8 * k + f) + v < 2 ^ 31 by omega) (by omega) (by omega), pk_div (show (1000 * (8 * k + f) + v) / 1000 < 2 ^ 31 by omega) (by omega) (by omega), z_rem (show (1000 * (8 * k + f) + v) / 1000 < 2 ^ 31 by omega) (by omega) (by omega), z_rem (show 1000 * (8 * k + f) + v < 2 ^ 31 by omega) (by omega) (by omega), show (1000 * (8 * k + f) + v) / 1000 = 8 * k + f by omega, show (8 * k + f) / 8 = k by omega, show (8 * k + f) % 8 = f by omega, show (1000 * (8 * k + f) + v) % 1000 = v by omega]
  have hq3 : q = 0 ∨ q = 1 ∨ q = 2 := by omega
  rcases hq3 with rfl | rfl | rfl
  · rfl
  · rfl
  · rfl
theorem op_entry : OP_entry zRR := by
  intro k x m a1 a2 hk h
  have hm := zRR_mono h
  obtain ⟨⟨F, ⟨hJ, -⟩, -⟩, -⟩ := h
  have hJ' := hJ
  obtain ⟨N, j1, j2, j3, j4⟩ := hJ
  unfold k_EL_entry k_Mo_entry
  by_cases e0 : a1 = -1
  · rw [if_pos e0, if_pos e0]
    exact ⟨nI N, congrArg some j2, congrArg some j3, hm⟩
  · rw [if_neg e0, if_neg e0]
    have hmo : (if m.1 14 < 300 then k_Mo_entry_30 m a1 a2 (m.1 14) else k_Mo_entry_30 m a1 a2 300) = k_Mo_entry_30 m a1 a2 (nI (min N 300)) := by
      rw [j3]
      by_cases hN : N < 300
      · rw [if_pos (show nI N < 300 from nI_lt (b := 300) hN (by omega)), Nat.min_eq_left (by omega)]
      · rw [if_neg (show ¬ nI N < 300 from nI_nlt (b := 300) (by omega) (by omega)), Nat.min_eq_right (by omega)]
        rfl
    rw [hmo]
    unfold k_Mo_entry_30 k_Jo_keeps
    rw [z_btw (by omega)]
    by_cases e1 : a1 < 0
    · rw [if_pos e1, if_pos e1]
      exact ⟨_, rfl, rfl, hm⟩
    · rw [if_neg e1, if_neg e1]
      obtain ⟨i, hi, rfl⟩ := nI_of e1
      by_cases e2 : i < N ∧ i < 300
      · have hlt : nI i < x.2.2.2.2.1.1.1.1.1.2 := by
          rw [j2]
          exact nI_lt e2.1 (by omega)
        rw [if_pos hlt, if_pos (show nI i < 300 from nI_lt (b := 300) e2.2 (by omega)), if_pos (nI_lt (show i < min N 300 by omega) (by omega))]
        simp only [Option.bind_some, k_Mo_isBetween]
        rw [if_neg (show ¬ (1 : Int32) = 0 by decide), if_neg (show ¬ (1 : Int32) = 0 by decide)]
        by_cases e3 : a2 < 0
        · rw [if_pos e3, if_pos e3]
          exact ⟨_, rfl, rfl, hm⟩
        · rw [if_neg e3, if_neg e3]
          obtain ⟨q, hq, rfl⟩ := nI_of e3
          by_cases e4 : q < 3
          · obtain ⟨kk, f, v, g1, g2, g3, g4, g5, g6, g7⟩ := j4 i e2.1 e2.2
            rw [if_pos (show nI q < 3 from nI_lt (b := 3) e4 (by omega)), if_neg (show ¬ (2 : Int32) < nI q from nI_nlt (a := 2) (by omega) (by omega)), Option.bind_some, if_neg (show ¬ (1 : Int32) = 0 by decide), jo_at hJ' (by omega) hlt e2.2 e4, mo_entryP e2.2 g1 g2 g3 g7 e4]
            refine ⟨_, rfl, ?_, hm⟩
            have hq3 : q = 0 ∨ q = 1 ∨ q = 2 := by omega
            rcases hq3 with rfl | rfl | rfl
            · exact congrArg some g4.symm
            · exact congrArg some g5.symm
            · exact congrArg some g6.symm
          · rw [if_neg (show ¬ nI q < 3 from nI_nlt (b := 3) (by omega) (by omega)), if_pos (show (2 : Int32) < nI q from nI_lt (a := 2) (by omega) (by omega)), Option.bind_some, if_pos rfl]
            exact ⟨_, rfl, rfl, hm⟩
      · rw [if_neg (nI_nlt (show min N 300 ≤ i by omega) (by omega)), j2]
        by_cases e5 : i < N
        · rw [if_pos (nI_lt e5 (by omega)), if_neg (show ¬ nI i < 300 from nI_nlt (b := 300) (by omega) (by omega))]
          exact ⟨_, rfl, rfl, hm⟩
        · rw [if_neg (nI_nlt (by omega) (by omega))]
          exact ⟨_, rfl, rfl, hm⟩
def zJN (j : zsT) (m : zsM) (N : Nat) (kk ff vv : Nat → Nat) : Prop := N ≤ 300 ∧ j.2 = nI N ∧ m.1 14 = nI N ∧ ∀ i, i < N → kk i < 11 ∧ ff i < 8 ∧ vv i < 1000 ∧ (∀ q, q < 3 → k_Jo_at j (nI i) (nI q) = some (if q = 0 then nI (kk i) else if q = 1 then nI (ff i) else nI (vv i))) ∧ ∀ q, q < 3 → k_Mo_entryPart m (nI i) (nI q) = some (if q = 0 then nI (kk i) else if q = 1 then nI (ff i) else nI (vv i))
theorem zJN_of {b : Nat} {j : zsT} {m : zsM} (h : zRJ b j (m.1 14) (m.2 13)) (hb : b < 2 ^ 27) : ∃ N, j.2 = nI N ∧ m.1 14 = nI N ∧ N < 2 ^ 27 ∧ (N ≤ 300 → ∃ kk ff vv, zJN j m N kk ff vv) := by
  have h' := h
  obtain ⟨N, j1, j2, j3, j4⟩ := h
  refine ⟨N, j2, j3, by omega, fun hN => ⟨fun i => (j.1 (3 * i)).toNatClampNeg, fun i => (j.1 (3 * i + 1)).toNatClampNeg, fun i => (j.1 (3 * i + 2)).toNatClampNeg, hN, j2, j3, fun i hi => ?_⟩⟩
  obtain ⟨k, f, v, g1, g2, g3, g4, g5, g6, g7⟩ := j4 i hi (by omega)
  dsimp only
  rw [g4, g5, g6, nI_clamp (show k < 2 ^ 31 by omega), nI_clamp (show f < 2 ^ 31 by omega), nI_clamp (show v < 2 ^ 31 by omega)]
  refine ⟨g1, g2, g3, fun q hq => ?_, fun q hq => mo_entryP (by omega) g1 g2 g3 g7 hq⟩
  rw [jo_at h' hb (by rw [j2]; exact nI_lt hi (by omega)) (by omega) hq]
  have hq3 : q = 0 ∨ q = 1 ∨ q = 2 := by omega
  rcases hq3 with rfl | rfl | rfl
  · exact congrArg some g4
  · exact congrArg some g5
  · exact congrArg some g6
theorem jn_tells {j : zsT} {m : zsM} {N i kd f : Nat} {kk ff vv : Nat → Nat} (h : zJN j m N kk ff vv) (hi : i < N) (hk : kd < 11) (hf : f < 8) : k_Jo_tells j (nI i) (nI kd) (nI f) = some (if kk i = kd ∧ ff i = f then 1 else 0) := by
  obtain ⟨g1, g2, g3, g4, g5⟩ := h.2.2.2 i hi
  unfold k_Jo_tells
  rw [show k_Jo_at j (nI i) 0 = _ from g4 0 (by omega), Option.bind_some, if_pos rfl]
  by_cases a1 : kk i = kd
  · rw [if_pos (by rw [a1]), show k_Jo_at j (nI i) 1 = _ from g4 1 (by omega), Option.bind_some, if_neg (show ¬ 1 = 0 by omega), if_pos rfl]
    by_cases a2 : ff i = f
    · rw [if_pos (by rw [a2]), if_pos ⟨a1, a2⟩]
    · rw [if_neg (fun e => a2 ((nI_eq (by omega) (by omega)).1 e)), if_neg (fun e => a2 e.2)]
  · rw [if_neg (fun e => a1 ((nI_eq (by omega) (by omega)).1 e)), if_neg (fun e => a1 e.1)]
theorem jn_num {j : zsT} {m : zsM} {N i kd f fu : Nat} {kk ff vv : Nat → Nat} {s : Int32} (h : zJN j m N kk ff vv) (hi : i < N) (hk : kd < 11) (hf : f < 8) : k_Jo_numberOf_5 j (nI kd) (nI f) (fu + 1) s (nI i) = k_Jo_numberOf_5 j (nI kd) (nI f) fu (if kk i = kd ∧ ff i = f then s + 1 else s) (nI (i + 1)) := by
  have hN := h.1
  simp only [k_Jo_numberOf_5]
  rw [h.2.1, if_pos (nI_lt hi (by omega)), if_pos (show nI i < 300 from nI_lt (b := 300) (by omega) (by omega)), jn_tells h hi hk hf, Option.bind_some, nI_1]
  by_cases a : kk i = kd ∧ ff i = f
  · rw [if_pos a, if_pos a, if_neg (by decide)]
  · rw [if_neg a, if_neg a, if_pos rfl]
theorem jn_sum {j : zsT} {m : zsM} {N i kd f fu : Nat} {kk ff vv : Nat → Nat} {s : Int32} (h : zJN j m N kk ff vv) (hi : i < N) (hk : kd < 11) (hf : f < 8) : k_Jo_sumOf_5 j (nI kd) (nI f) (fu + 1) s (nI i) = k_Jo_sumOf_5 j (nI kd) (nI f) fu (if kk i = kd ∧ ff i = f then s + nI (vv i) else s) (nI (i + 1)) := by
  have hN := h.1
  obtain ⟨g1, g2, g3, g4, g5⟩ := h.2.2.2 i hi
  simp only [k_Jo_sumOf_5]
  rw [h.2.1, if_pos (nI_lt hi (by omega)), if_pos (show nI i < 300 from nI_lt (b := 300) (by omega) (by omega)), jn_tells h hi hk hf, Option.bind_some, nI_1, show k_Jo_at j (nI i) 2 = some (nI (vv i)) from g4 2 (by omega)]
  by_cases a : kk i = kd ∧ ff i = f
  · rw [if_pos a, if_pos a, if_neg (by decide), Option.bind_some]
  · rw [if_neg a, if_neg a, if_pos rfl]
theorem jn_amt {j : zsT} {m : zsM} {N i kd f fu : Nat} {kk ff vv : Nat → Nat} {s : Int32} (h : zJN j m N kk ff vv) (hi : i < N) (hk : kd < 11) (hf : f < 8) : k_Jo_sumOfAmounts_5 j (nI kd) (nI f) (fu + 1) s (nI i) = k_Jo_sumOfAmounts_5 j (nI kd) (nI f) fu (if kk i = kd ∧ ff i = f then s + zrem (nI (vv i)) 10 else s) (nI (i + 1)) := by
  have hN := h.1
  obtain ⟨g1, g2, g3, g4, g5⟩ := h.2.2.2 i hi
  simp only [k_Jo_sumOfAmounts_5]
  rw [h.2.1, if_pos (nI_lt hi (by omega)), if_pos (show nI i < 300 from nI_lt (b := 300) (by omega) (by omega)), jn_tells h hi hk hf, Option.bind_some, nI_1, show k_Jo_at j (nI i) 2 = some (nI (vv i)) from g4 2 (by omega)]
  by_cases a : kk i = kd ∧ ff i = f
  · rw [if_pos a, if_pos a, if_neg (by decide), Option.bind_some]
  · rw [if_neg a, if_neg a, if_pos rfl]
theorem jn_mov {j : zsT} {m : zsM} {N i f fu : Nat} {kk ff vv : Nat → Nat} {s : Int32} (h : zJN j m N kk ff vv) (hi : i < N) (hf : f < 8) : k_Jo_latestMoveOf_5 j (nI f) (fu + 1) s (nI i) = k_Jo_latestMoveOf_5 j (nI f) fu (if kk i = 7 ∧ ff i = f then nI (vv i) else s) (nI (i + 1)) := by
  have hN := h.1
  obtain ⟨g1, g2, g3, g4, g5⟩ := h.2.2.2 i hi
  simp only [k_Jo_latestMoveOf_5]
  rw [h.2.1, if_pos (nI_lt hi (by omega)), if_pos (show nI i < 300 from nI_lt (b := 300) (by omega) (by omega)), show k_Jo_tells j (nI i) 7 (nI f) = _ from jn_tells h hi (kd := 7) (by omega) hf, Option.bind_some, nI_1, show k_Jo_at j (nI i) 2 = some (nI (vv i)) from g4 2 (by omega)]
  by_cases a : kk i = 7 ∧ ff i = f
  · rw [if_pos a, if_pos a, if_neg (by decide), Option.bind_some]
  · rw [if_neg a, if_neg a, if_pos rfl]
theorem jn_rep {j : zsT} {m : zsM} {N i f fu : Nat} {kk ff vv : Nat → Nat} {s w : Int32} (h : zJN j m N kk ff vv) (hi : i < N) (hf : f < 8) : k_Mo_replayed_51 (nI f) w (fu + 1) s (nI i) m = if ff i = f then (k_Mo_replays s w (nI (kk i)) (nI (vv i))).bind fun o12 => k_Mo_replayed_51 (nI f) w fu o12 (nI (i + 1)) m else k_Mo_replayed_51 (nI f) w fu s (nI (i + 1)) m := by
  have hN := h.1
  obtain ⟨g1, g2, g3, g4, g5⟩ := h.2.2.2 i hi
  simp only [k_Mo_replayed_51]
  rw [h.2.2.1, if_pos (nI_lt hi (by omega)), show k_Mo_entryPart m (nI i) 1 = some (nI (ff i)) from g5 1 (by omega), show k_Mo_entryPart m (nI i) 0 = some (nI (kk i)) from g5 0 (by omega), show k_Mo_entryPart m (nI i) 2 = some (nI (vv i)) from g5 2 (by omega), nI_1]
  simp only [Option.bind_some]
  by_cases a : ff i = f
  · rw [if_pos a, if_pos (by rw [a])]
  · rw [if_neg a, if_neg (fun e => a ((nI_eq (by omega) (by omega)).1 e))]
