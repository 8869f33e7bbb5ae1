def zRJ (b : Nat) (j : zsT) (e : Int32) (a : Nat → Int32) : Prop := ∃ N, N ≤ b ∧ j.2 = nI N ∧ e = nI N ∧ ∀ i, i < N → i < 300 → ∃ k f v, k < 11 ∧ f < 8 ∧ v < 1000 ∧ j.1 (3 * i) = nI k ∧ j.1 (3 * i + 1) = nI f ∧ j.1 (3 * i + 2) = nI v ∧ a i = nI (1000 * (8 * k + f) + v)
def zFrJ (m m' : zsM) : Prop := (∀ i, i ≠ 14 → m'.1 i = m.1 i) ∧ ∀ i, i ≠ 13 → m'.2 i = m.2 i
theorem zRJ_mono {b b' : Nat} {j : zsT} {e : Int32} {a : Nat → Int32} (h : zRJ b j e a) (hb : b ≤ b') : zRJ b' j e a := by
  obtain ⟨N, h1, h2⟩ := h
  exact ⟨N, by omega, h2⟩
theorem jo_write {N : Nat} {j : zsT} {x y z : Int32} (hj : j.2 = nI N) (hN : N < 2 ^ 27) : k_Jo_write j x y z = some (if N < 300 then upd (upd (upd j.1 (3 * N) x) (3 * N + 1) y) (3 * N + 2) z else j.1, nI (N + 1)) := by
  unfold k_Jo_write
  simp only [hj, z_300, z_3, z_0, z_1, z_2, z_900, nI_add, pk_mul]
  by_cases h : N < 300
  · rw [if_pos (nI_lt h (by omega)), if_pos h, if_neg (nI_nlt (by omega) (by omega)), if_pos (nI_lt (by omega) (by omega)), if_neg (zo_in (by omega) (by omega)), if_neg (zo_in (by omega) (by omega)), if_neg (zo_in (by omega) (by omega)), nI_clamp (by omega), nI_clamp (by omega), nI_clamp (by omega), Nat.mul_comm N 3]
    rfl
  · rw [if_neg (nI_nlt (by omega) (by omega)), if_neg h]
theorem mo_notes {N k f v : Nat} {m : zsM} (hm : m.1 14 = nI N) (hN : N < 2 ^ 27) : k_Mo_notes m (nI k) (nI f) (nI v) = some (upd m.1 14 (nI (N + 1)), if N < 300 then va_up m.2 13 (upd (m.2 13) N (nI (1000 * (8 * k + f) + v))) else m.2) := by
  unfold k_Mo_notes
  rw [hm, z_300, z_1000, z_8, z_1, nI_add N 1]
  by_cases h : N < 300
  · rw [if_pos (nI_lt h (by omega)), if_pos h, if_neg (zo_in (by omega) (by omega)), pk_mul, nI_add, pk_mul, nI_add, nI_clamp (by omega)]
  · rw [if_neg (nI_nlt (by omega) (by omega)), if_neg h]
theorem r_note {b k f v : Nat} {j : zsT} {m : zsM} (h : zRJ b j (m.1 14) (m.2 13)) (hb : b < 2 ^ 27) (hk : k < 11) (hf : f < 8) (hv : v < 1000) : ∃ j' m', k_Jo_write j (nI k) (nI f) (nI v) = some j' ∧ k_Mo_notes m (nI k) (nI f) (nI v) = some m' ∧ zRJ (b + 1) j' (m'.1 14) (m'.2 13) ∧ zFrJ m m' := by
  obtain ⟨N, h1, h2, h3, h4⟩ := h
  refine ⟨_, _, jo_write h2 (by omega), mo_notes h3 (by omega), ⟨N + 1, by omega, rfl, rfl, fun i hi hi2 => ?_⟩, fun i hi => zu_n hi, fun i hi => ?_⟩
  · by_cases hN : i < N
    · obtain ⟨k', f', v', g1, g2, g3, g4, g5, g6, g7⟩ := h4 i hN hi2
      refine ⟨k', f', v', g1, g2, g3, ?_, ?_, ?_, ?_⟩
      · dsimp only
        split
        · rw [zu_n (by omega), zu_n (by omega), zu_n (by omega), g4]
        · exact g4
      · dsimp only
        split
        · rw [zu_n (by omega), zu_n (by omega), zu_n (by omega), g5]
        · exact g5
      · dsimp only
        split
        · rw [zu_n (by omega), zu_n (by omega), zu_n (by omega), g6]
        · exact g6
      · dsimp only
        split
        · rw [zup_s, zu_n (by omega), g7]
        · exact g7
    · have hiN : i = N := by omega
      subst hiN
      refine ⟨k, f, v, hk, hf, hv, ?_, ?_, ?_, ?_⟩
      · dsimp only
        rw [if_pos hi2, zu_n (by omega), zu_n (by omega), zu_s]
      · dsimp only
        rw [if_pos hi2, zu_n (by omega), zu_s]
      · dsimp only
        rw [if_pos hi2, zu_s]
      · dsimp only
        rw [if_pos hi2, zup_s, zu_s]
  · dsimp only
    split
    · exact zup_n hi
    · rfl
theorem jo_at {b i q : Nat} {j : zsT} {e : Int32} {a : Nat → Int32} (h : zRJ b j e a) (hb : b < 2 ^ 27) (hi : nI i < j.2) (hi3 : i < 300) (hq : q < 3) : k_Jo_at j (nI i) (nI q) = some (j.1 (3 * i + q)) := by
  unfold k_Jo_at
  rw [if_neg (nI_pos (by omega)), if_pos hi, z_300, if_pos (nI_lt hi3 (by omega)), if_neg (nI_pos (by omega)), z_3, if_pos (nI_lt hq (by omega)), pk_mul, nI_add, z_900, if_pos (nI_lt (by omega) (by omega)), if_neg (zo_in (by omega) (by omega)), nI_clamp (by omega), Nat.mul_comm i 3]
