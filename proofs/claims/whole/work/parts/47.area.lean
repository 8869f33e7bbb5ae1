def zd (a b : Nat) : Nat := (a - b) + (b - a)
theorem zd_c (a b : Nat) : zd a b = zd b a := by
  unfold zd
  omega
theorem z0sub (a b : Int32) : (0 : Int32) - (a - b) = b - a := by
  rw [Int32.sub_eq_add_neg, Int32.zero_add, Int32.neg_sub]
theorem zabs_d {a b : Nat} (ha : a < 100) (hb : b < 100) : zabs (nI a - nI b) = nI (zd a b) := by
  have h1 := pk_sub_toInt (a := a) (b := b) (by omega) (by omega)
  have h0 : (0 : Int32).toInt = 0 := rfl
  unfold zabs zd
  by_cases h : b ≤ a
  · rw [if_pos, pk_sub h, show a - b + (b - a) = a - b by omega]
    rw [Int32.le_iff_toInt_le]
    omega
  · rw [if_neg, z0sub, pk_sub (a := b) (b := a) (by omega), show a - b + (b - a) = b - a by omega]
    rw [Int32.le_iff_toInt_le]
    omega
theorem mo_dist {a b : Nat} (ha : a < 100) (hb : b < 100) : k_Mo_distance (nI a) (nI b) = some (nI (zd b a)) := by
  unfold k_Mo_distance zd
  by_cases h : a < b
  · rw [if_pos (nI_lt h (by omega)), pk_sub (by omega), show b - a + (a - b) = b - a by omega]
  · rw [if_neg (nI_nlt (by omega) (by omega)), pk_sub (by omega), show b - a + (a - b) = a - b by omega]
theorem zneg_d (a b : Int32) : (a - b) * (-1 : Int32) = b - a := by
  rw [Int32.mul_neg, Int32.mul_one, Int32.neg_sub]
theorem z_rem {a d : Nat} (ha : a < 2 ^ 31) (h0 : 0 < d) (hd : d < 2 ^ 31) : zrem (nI a) (nI d) = nI (a % d) := by
  unfold zrem
  exact pk_rem ha h0 hd
theorem r_area_hz {d cx ox cy oy : Nat} (sh or s cell : Int32) (hd : d < 4) (h1 : cx < 10) (h2 : ox < 10) (h3 : cy < 10) (h4 : oy < 10) : ∃ c r h z, k_EL_columnStep (nI d) = some c ∧ k_EL_rowStep (nI d) = some r ∧ z < 100 ∧ (nI cx - nI ox) * c + (nI cy - nI oy) * r = h ∧ zabs ((nI cx - nI ox) * r + (nI cy - nI oy) * c) = nI z ∧ (if nI d = 0 then k_Mo_isWithin_133 sh or (nI d) s cell (nI (zd cx ox)) (nI (zd cy oy)) (nI cx - nI ox) else if nI d = 1 then k_Mo_isWithin_133 sh or (nI d) s cell (nI (zd cx ox)) (nI (zd cy oy)) (nI cy - nI oy) else if nI d = 2 then k_Mo_isWithin_133 sh or (nI d) s cell (nI (zd cx ox)) (nI (zd cy oy)) (nI ox - nI cx) else k_Mo_isWithin_133 sh or (nI d) s cell (nI (zd cx ox)) (nI (zd cy oy)) (nI oy - nI cy)) = k_Mo_isWithin_148 sh or (nI d) s cell h (nI z) := by
  have hz : ∀ a b : Nat, a < 10 → b < 10 → zd a b < 100 := fun a b ha hb => by
    unfold zd
    omega
  have hd4 : d = 0 ∨ d = 1 ∨ d = 2 ∨ d = 3 := by omega
  rcases hd4 with rfl | rfl | rfl | rfl
  · refine ⟨1, 0, _, zd cy oy, rfl, rfl, hz _ _ h3 h4, rfl, ?_, ?_⟩
    · rw [Int32.mul_zero, Int32.zero_add, Int32.mul_one, zabs_d (by omega) (by omega)]
    · rw [if_pos (by decide), Int32.mul_one, Int32.mul_zero, Int32.add_zero]
      unfold k_Mo_isWithin_133
      rw [if_pos (by decide)]
  · refine ⟨0, 1, _, zd cx ox, rfl, rfl, hz _ _ h1 h2, rfl, ?_, ?_⟩
    · rw [Int32.mul_one, Int32.mul_zero, Int32.add_zero, zabs_d (by omega) (by omega)]
    · rw [if_neg (by decide), if_pos (by decide), Int32.mul_zero, Int32.zero_add, Int32.mul_one]
      unfold k_Mo_isWithin_133
      rw [if_neg (by decide)]
  · refine ⟨-1, 0, _, zd cy oy, rfl, rfl, hz _ _ h3 h4, rfl, ?_, ?_⟩
    · rw [Int32.mul_zero, Int32.zero_add, zneg_d, zabs_d (by omega) (by omega), zd_c]
    · rw [if_neg (by decide), if_neg (by decide), if_pos (by decide), zneg_d, Int32.mul_zero, Int32.add_zero]
      unfold k_Mo_isWithin_133
      rw [if_pos (by decide)]
  · refine ⟨0, -1, _, zd cx ox, rfl, rfl, hz _ _ h1 h2, rfl, ?_, ?_⟩
    · rw [zneg_d, Int32.mul_zero, Int32.add_zero, zabs_d (by omega) (by omega), zd_c]
    · rw [if_neg (by decide), if_neg (by decide), if_neg (by decide), Int32.mul_zero, zneg_d, Int32.zero_add]
      unfold k_Mo_isWithin_133
      rw [if_neg (by decide)]
theorem r_area {sh og d s cell : Nat} (hsh : sh < 4) (hor : og < 100) (hd : d < 4) (hs : s < 6) (hc : cell < 100) : ∃ v, k_EL_isInArea (nI sh) (nI og) (nI d) (nI s) (nI cell) = some v ∧ k_Mo_isWithin (nI sh) (nI og) (nI d) (nI s) (nI cell) = some v ∧ (v = 0 ∨ v = 1) := by
  obtain ⟨c, r, h, z, e1, e2, hz, e3, e4, e5⟩ := r_area_hz (d := d) (cx := cell % 10) (ox := og % 10) (cy := cell / 10) (oy := og / 10) (nI sh) (nI og) (nI s) (nI cell) hd (by omega) (by omega) (by omega) (by omega)
  have m1 : zrem (nI cell) 10 = nI (cell % 10) := z_rem (d := 10) (by omega) (by omega) (by omega)
  have m2 : zrem (nI og) 10 = nI (og % 10) := z_rem (d := 10) (by omega) (by omega) (by omega)
  have m3 : nI cell / (10 : Int32) = nI (cell / 10) := pk_div (d := 10) (by omega) (by omega) (by omega)
  have m4 : nI og / (10 : Int32) = nI (og / 10) := pk_div (d := 10) (by omega) (by omega) (by omega)
  have hzx : zd (cell % 10) (og % 10) < 20 := by unfold zd; omega
  have hzy : zd (cell / 10) (og / 10) < 20 := by unfold zd; omega
  unfold k_EL_isInArea k_Mo_isWithin
  rw [e1, e2]
  simp only [Option.bind_some]
  rw [m1, m2, m3, m4, e3, e4, mo_dist (by omega) (by omega), mo_dist (by omega) (by omega), zabs_d (by omega) (by omega), zabs_d (by omega) (by omega)]
  simp only [Option.bind_some]
  rw [e5]
  have hs4 : sh = 0 ∨ sh = 1 ∨ sh = 2 ∨ sh = 3 := by omega
  have e10 : (nI 1 = (0 : Int32)) = False := eq_false (by decide)
  have e20 : (nI 2 = (0 : Int32)) = False := eq_false (by decide)
  have e21 : (nI 2 = (1 : Int32)) = False := eq_false (by decide)
  have e30 : (nI 3 = (0 : Int32)) = False := eq_false (by decide)
  have e31 : (nI 3 = (1 : Int32)) = False := eq_false (by decide)
  have e32 : (nI 3 = (2 : Int32)) = False := eq_false (by decide)
  have e00 : (nI 0 = (0 : Int32)) = True := eq_true rfl
  have e11 : (nI 1 = (1 : Int32)) = True := eq_true rfl
  have e22 : (nI 2 = (2 : Int32)) = True := eq_true rfl
  have e33 : (nI 3 = (3 : Int32)) = True := eq_true rfl
  rcases hs4 with rfl | rfl | rfl | rfl
  · simp only [e00, ↓reduceIte]
    rw [zmax_nI (by omega) (by omega)]
    by_cases a1 : s < zd (cell % 10) (og % 10)
    · rw [if_pos (nI_lt (by omega) (by omega)), if_pos (nI_lt a1 (by omega))]
      exact ⟨0, rfl, rfl, Or.inl rfl⟩
    · rw [if_neg (nI_nlt (b := zd (cell % 10) (og % 10)) (by omega) (by omega))]
      by_cases a2 : s < zd (cell / 10) (og / 10)
      · rw [if_pos (nI_lt (by omega) (by omega)), if_pos (nI_lt a2 (by omega))]
        exact ⟨0, rfl, rfl, Or.inl rfl⟩
      · rw [if_neg (nI_nlt (by omega) (by omega)), if_neg (nI_nlt (by omega) (by omega))]
        exact ⟨1, rfl, rfl, Or.inr rfl⟩
  · simp only [e10, e11, ↓reduceIte]
    split
    · exact ⟨0, rfl, rfl, Or.inl rfl⟩
    · exact ⟨1, rfl, rfl, Or.inr rfl⟩
  · simp only [e20, e21, e22, ↓reduceIte, k_Mo_isWithin_148, k_Mo_isBetween, k_Mo_isWithin_175]
    by_cases a1 : h < 1
    · rw [if_pos a1, if_pos a1, Option.bind_some, if_pos rfl]
      exact ⟨0, rfl, rfl, Or.inl rfl⟩
    · rw [if_neg a1, if_neg a1]
      by_cases a2 : nI s < h
      · rw [if_pos a2, if_pos a2, Option.bind_some, if_pos rfl]
        exact ⟨0, rfl, rfl, Or.inl rfl⟩
      · rw [if_neg a2, if_neg a2, Option.bind_some, if_neg (show ¬ (1 : Int32) = 0 by decide)]
        by_cases a3 : h / 2 < nI z
        · rw [if_pos a3]
          exact ⟨0, rfl, rfl, Or.inl rfl⟩
        · rw [if_neg a3]
          exact ⟨1, rfl, rfl, Or.inr rfl⟩
  · simp only [e30, e31, e32, e33, ↓reduceIte, k_Mo_isWithin_148, k_Mo_isBetween, k_Mo_isWithin_175]
    by_cases a1 : h < 1
    · rw [if_pos a1, if_pos a1, Option.bind_some, if_pos rfl]
      exact ⟨0, rfl, rfl, Or.inl rfl⟩
    · rw [if_neg a1, if_neg a1]
      by_cases a2 : nI s < h
      · rw [if_pos a2, if_pos a2, Option.bind_some, if_pos rfl]
        exact ⟨0, rfl, rfl, Or.inl rfl⟩
      · rw [if_neg a2, if_neg a2, Option.bind_some, if_neg (show ¬ (1 : Int32) = 0 by decide)]
        by_cases a3 : z = 0
        · subst a3
          rw [if_pos (show nI 0 = 0 from rfl), if_neg (show ¬ (0 : Int32) < nI 0 by decide)]
          exact ⟨1, rfl, rfl, Or.inr rfl⟩
        · rw [if_neg (nI_ne0 (by omega) (by omega)), if_pos (show (0 : Int32) < nI z from nI_lt (a := 0) (by omega) (by omega))]
          exact ⟨0, rfl, rfl, Or.inl rfl⟩
def zbe (a d : Nat) : Nat := if d = 0 then (if a % 10 + 1 < 10 then a + 1 else 100) else if d = 1 then (if a / 10 + 1 < 10 then a + 10 else 100) else if d = 2 then (if 0 < a % 10 then a - 1 else 100) else (if 0 < a / 10 then a - 10 else 100)
theorem mo_beside : ∀ a, a < 100 → ∀ d, d < 4 → k_Mo_beside (nI a) (nI d) = some (if zbe a d = 100 then -1 else nI (zbe a d)) := by decide +kernel
theorem zbe_le {a d : Nat} (ha : a < 100) : zbe a d ≤ 100 ∧ (zbe a d = 100 ∨ zbe a d < 100) := by
  unfold zbe
  split
  · split <;> omega
  · split
    · split <;> omega
    · split
      · split <;> omega
      · split <;> omega
theorem r_nbs {a b : Nat} {m : zsM} (ha : a < 100) (hb : b < 100) (hab : a ≠ b) : ∃ v, k_EL_isInArea 1 (nI a) 0 1 (nI b) = some v ∧ k_Mo_areNeighbors m (nI a) (nI b) = some v ∧ (v = 0 ∨ v = 1) := by
  have m1 : zrem (nI b) 10 = nI (b % 10) := z_rem (d := 10) (by omega) (by omega) (by omega)
  have m2 : zrem (nI a) 10 = nI (a % 10) := z_rem (d := 10) (by omega) (by omega) (by omega)
  have m3 : nI b / (10 : Int32) = nI (b / 10) := pk_div (d := 10) (by omega) (by omega) (by omega)
  have m4 : nI a / (10 : Int32) = nI (a / 10) := pk_div (d := 10) (by omega) (by omega) (by omega)
  obtain ⟨g, hg⟩ : ∃ g, zFu = g + 5 := ⟨zFu - 5, by have := zFu_gt; omega⟩
  have hcls : k_EL_isInArea 1 (nI a) 0 1 (nI b) = some (if 1 < zd (b % 10) (a % 10) + zd (b / 10) (a / 10) then 0 else 1) := by
    unfold k_EL_isInArea k_EL_columnStep k_EL_rowStep
    rw [if_pos (show (0 : Int32) = 0 from rfl), if_neg (show ¬ (0 : Int32) = 1 by decide), if_neg (show ¬ (0 : Int32) = 3 by decide)]
    simp only [Option.bind_some]
    rw [if_neg (show ¬ (1 : Int32) = 0 by decide), if_pos trivial, m1, m2, m3, m4, zabs_d (by omega) (by omega), zabs_d (by omega) (by omega), nI_add]
    have hzx : zd (b % 10) (a % 10) < 20 := by unfold zd; omega
    have hzy : zd (b / 10) (a / 10) < 20 := by unfold zd; omega
    by_cases h : 1 < zd (b % 10) (a % 10) + zd (b / 10) (a / 10)
    · rw [if_pos h, if_pos (show (1 : Int32) < nI _ from nI_lt (a := 1) h (by omega))]
    · rw [if_neg h, if_neg (show ¬ (1 : Int32) < nI _ from nI_nlt (a := 1) (by omega) (by omega))]
  have hbs : ∀ d, d < 4 → ((if zbe a d = 100 then (-1 : Int32) else nI (zbe a d)) = nI b ↔ zbe a d = b) := fun d hd => by
    rcases (zbe_le (d := d) ha).2 with h | h
    · rw [if_pos h]
      refine ⟨fun e => ?_, fun e => by omega⟩
      have g1 := nI_toInt (n := b) (by omega)
      rw [← e] at g1
      have g2 : (-1 : Int32).toInt = -1 := rfl
      omega
    · rw [if_neg (by omega)]
      exact nI_eq (by omega) (by omega)
  have hmo : k_Mo_areNeighbors m (nI a) (nI b) = some (if zbe a 0 = b ∨ zbe a 1 = b ∨ zbe a 2 = b ∨ zbe a 3 = b then 1 else 0) := by
    have st : ∀ d fu, d < 4 → k_Mo_areNeighbors_2 m (nI a) (nI b) (fu + 1) (nI d) = if zbe a d = b then some 1 else k_Mo_areNeighbors_2 m (nI a) (nI b) fu (nI (d + 1)) := fun d fu hd => by
      simp only [k_Mo_areNeighbors_2]
      rw [if_pos (show nI d < 4 from nI_lt (b := 4) hd (by omega)), mo_beside a ha d hd, Option.bind_some, nI_1]
      by_cases h : zbe a d = b
      · rw [if_pos ((hbs d hd).2 h), if_pos h]
      · rw [if_neg (fun e => h ((hbs d hd).1 e)), if_neg h]
    have st4 : ∀ fu, k_Mo_areNeighbors_2 m (nI a) (nI b) (fu + 1) (nI 4) = some 0 := fun fu => by
      simp only [k_Mo_areNeighbors_2]
      rw [if_neg (by decide)]
    unfold k_Mo_areNeighbors
    rw [hg, show k_Mo_areNeighbors_2 m (nI a) (nI b) (g + 5) 0 = _ from st 0 (g + 4) (by omega), st 1 (g + 3) (by omega), st 2 (g + 2) (by omega), st 3 (g + 1) (by omega), st4]
    by_cases h0 : zbe a 0 = b
    · rw [if_pos h0, if_pos (Or.inl h0)]
    · rw [if_neg h0]
      by_cases h1 : zbe a 1 = b
      · rw [if_pos h1, if_pos (Or.inr (Or.inl h1))]
      · rw [if_neg h1]
        by_cases h2 : zbe a 2 = b
        · rw [if_pos h2, if_pos (Or.inr (Or.inr (Or.inl h2)))]
        · rw [if_neg h2]
          by_cases h3 : zbe a 3 = b
          · rw [if_pos h3, if_pos (Or.inr (Or.inr (Or.inr h3)))]
          · rw [if_neg h3, if_neg (by rintro (h | h | h | h) <;> contradiction)]
  have key : (zbe a 0 = b ∨ zbe a 1 = b ∨ zbe a 2 = b ∨ zbe a 3 = b) ↔ ¬ 1 < zd (b % 10) (a % 10) + zd (b / 10) (a / 10) := by
    simp only [zbe, zd, if_pos, show ¬ (1 : Nat) = 0 by omega, show ¬ (2 : Nat) = 0 by omega, show ¬ (3 : Nat) = 0 by omega, show ¬ (2 : Nat) = 1 by omega, show ¬ (3 : Nat) = 1 by omega, show ¬ (3 : Nat) = 2 by omega, ↓reduceIte]
    by_cases q0 : a % 10 + 1 < 10 <;> by_cases q1 : a / 10 + 1 < 10 <;> by_cases q2 : 0 < a % 10 <;> by_cases q3 : 0 < a / 10 <;> simp only [q0, q1, q2, q3, ↓reduceIte] <;> omega
  rw [hcls, hmo]
  by_cases h : 1 < zd (b % 10) (a % 10) + zd (b / 10) (a / 10)
  · rw [if_pos h, if_neg (fun e => key.1 e h)]
    exact ⟨0, rfl, rfl, Or.inl rfl⟩
  · rw [if_neg h, if_pos (key.2 h)]
    exact ⟨1, rfl, rfl, Or.inr rfl⟩
