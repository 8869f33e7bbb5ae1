abbrev zCd : Type := Nat → Nat
def zpk (c : zCd) : Nat := ((((c 0 * 8 + c 1) * 8 + c 2) * 10 + c 3) * 4 + c 4) * 10 + c 5
def zky (c : zCd) : Nat := (c 0 * 8 + c 1) * 8 + c 2
def zCR (F : Nat) (c : zCd) : Prop := c 0 < 6 ∧ c 1 < F ∧ c 2 < F ∧ c 3 < 10 ∧ c 4 < 4 ∧ c 5 < 10
def zli (L : List zCd) (i : Nat) : zCd := L.getD i (fun _ => 0)
def zCT (t : zsT) (L : List zCd) : Prop := t.2 = nI L.length ∧ ∀ i, i < L.length → ∀ q, q < 6 → t.1 (i * 6 + q) = nI (zli L i q)
def zMT (n : Int32) (a : Nat → Int32) (L : List zCd) : Prop := n = nI L.length ∧ ∀ i, i < L.length → a i = nI (zpk (zli L i))
def zLR (F : Nat) (L : List zCd) : Prop := F ≤ 8 ∧ L.length ≤ 384 ∧ ∀ i, i < L.length → zCR F (zli L i)
theorem zadd0 (x : Int32) : x + nI 0 = x := Int32.add_zero x
theorem zct_get {t : zsT} {L : List zCd} {i q : Nat} (h : zCT t L) (hL : L.length ≤ 384) (hi : i < L.length) (hq : q < 6) : k_Ta_get 6 2304 t (nI i) (nI q) = some (nI (zli L i q)) := by
  rw [← h.2 i hi q hq]
  exact ta_get (w := 6) h.1 hi hq (by omega) (by omega)
theorem zmt_part {m : zsM} {L : List zCd} {F i q : Nat} (h : zMT (m.1 16) (m.2 15) L) (hr : zLR F L) (hi : i < L.length) (hq : q < 6) : k_Mo_partOf m (nI i) (nI q) = some (nI (zli L i q)) := by
  obtain ⟨hF, hL, hc⟩ := hr
  obtain ⟨g0, g1, g2, g3, g4, g5⟩ := hc i hi
  unfold k_Mo_partOf
  rw [if_neg (zo_in (by omega) (by omega)), nI_clamp (by omega), h.2 i hi]
  have hp : zpk (zli L i) = ((((zli L i 0 * 8 + zli L i 1) * 8 + zli L i 2) * 10 + zli L i 3) * 4 + zli L i 4) * 10 + zli L i 5 := rfl
  have hb : zpk (zli L i) < 2 ^ 31 := by omega
  have e : ∀ a b : Nat, a < 6 → b < 6 → (nI a = nI b ↔ a = b) := fun a b ha hb => nI_eq (by omega) (by omega)
  simp only [z_0, z_1, z_2, z_3, z_4, e q _ hq (show 0 < 6 by omega), e q _ hq (show 1 < 6 by omega), e q _ hq (show 2 < 6 by omega), e q _ hq (show 3 < 6 by omega), e q _ hq (show 4 < 6 by omega)]
  unfold zrem
  rw [show (25600 : Int32) = nI 25600 from rfl, show (3200 : Int32) = nI 3200 from rfl, show (400 : Int32) = nI 400 from rfl, show (40 : Int32) = nI 40 from rfl, z_10, z_8, pk_div hb (by omega) (by omega), pk_div hb (by omega) (by omega), pk_div hb (by omega) (by omega), pk_div hb (by omega) (by omega)]
  have hq6 : q = 0 ∨ q = 1 ∨ q = 2 ∨ q = 3 ∨ q = 4 ∨ q = 5 := by omega
  rcases hq6 with rfl | rfl | rfl | rfl | rfl | rfl
  · rw [if_pos rfl, hp]
    congr 2
    omega
  · rw [if_neg (by omega), if_pos rfl, pk_rem (by omega) (by omega) (by omega), hp]
    congr 2
    omega
  · rw [if_neg (by omega), if_neg (by omega), if_pos rfl, pk_rem (by omega) (by omega) (by omega), hp]
    congr 2
    omega
  · rw [if_neg (by omega), if_neg (by omega), if_neg (by omega), if_pos rfl, pk_rem (by omega) (by omega) (by omega), hp]
    congr 2
    omega
  · rw [if_neg (by omega), if_neg (by omega), if_neg (by omega), if_neg (by omega), if_pos rfl, pk_div hb (by omega) (by omega), pk_rem (by omega) (by omega) (by omega), hp]
    congr 2
    omega
  · rw [if_neg (by omega), if_neg (by omega), if_neg (by omega), if_neg (by omega), if_neg (by omega), pk_rem hb (by omega) (by omega), hp]
    congr 2
    omega
theorem r_sumOf_lp {j t : zsT} {p : Nat → Int32} {L : List zCd} {F : Nat} {m : zsM} {x y : Int32} (ht : zCT t L) (hm : zMT (m.1 16) (m.2 15) L) (hr : zLR F L) : ∀ (d i fu fu' : Nat) (s : Int32), i + d = L.length → d < fu → d < fu' → ∃ v, k_Co_sumOf_5 (j, t, p) x y fu s (nI i) = some v ∧ k_Mo_sumOf_5 m x y fu' s (nI i) = some v := by
  have hL := hr.2.1
  intro d
  induction d with
  | zero =>
    intro i fu fu' s hi h1 h2
    obtain ⟨fu, rfl, -⟩ := z_fuS h1
    obtain ⟨fu', rfl, -⟩ := z_fuS h2
    refine ⟨s, ?_, ?_⟩
    · simp only [k_Co_sumOf_5, k_Ta_used, Option.bind_some, ht.1]
      rw [if_neg (nI_nlt (by omega) (by omega))]
    · simp only [k_Mo_sumOf_5, hm.1]
      rw [if_neg (nI_nlt (by omega) (by omega))]
  | succ d ih =>
    intro i fu fu' s hi h1 h2
    obtain ⟨fu, rfl, h1'⟩ := z_fuS h1
    obtain ⟨fu', rfl, h2'⟩ := z_fuS h2
    have hi' : i < L.length := by omega
    have C := fun q hq => zct_get (q := q) ht hL hi' hq
    have P := fun q hq => zmt_part (q := q) hm hr hi' hq
    have hlt : nI i < nI L.length := nI_lt hi' (by omega)
    simp only [k_Co_sumOf_5, k_Mo_sumOf_5, k_Ta_used, Option.bind_some, ht.1, hm.1, z_0, z_1, z_3, if_pos hlt, C 0 (by omega), C 1 (by omega), C 3 (by omega), P 0 (by omega), P 1 (by omega), P 3 (by omega), nI_1, nI_add, zadd0]
    by_cases a1 : nI (zli L i 1) = x <;> by_cases a0 : nI (zli L i 0) = y <;> simp only [a1, a0, ↓reduceIte] <;> exact ih _ _ _ _ (by omega) (by omega) (by omega)
theorem r_sumOf {j t : zsT} {p : Nat → Int32} {L : List zCd} {F : Nat} {m : zsM} (x y : Int32) (ht : zCT t L) (hm : zMT (m.1 16) (m.2 15) L) (hr : zLR F L) : ∃ v, k_Co_sumOf (j, t, p) x y = some v ∧ k_Mo_sumOf m x y = some v :=
  r_sumOf_lp ht hm hr L.length 0 zFu zFu 0 (by omega) (z_fu (by have := hr.2.1; omega)) (z_fu (by have := hr.2.1; omega))
theorem r_numberOf_lp {j t : zsT} {p : Nat → Int32} {L : List zCd} {F : Nat} {m : zsM} {x y : Int32} (ht : zCT t L) (hm : zMT (m.1 16) (m.2 15) L) (hr : zLR F L) : ∀ (d i fu fu' : Nat) (s : Int32), i + d = L.length → d < fu → d < fu' → ∃ v, k_Co_numberOf_4 (j, t, p) x fu s (nI i) = some v ∧ k_Mo_fighterMore_85 m x y fu' s (nI i) = some v := by
  have hL := hr.2.1
  intro d
  induction d with
  | zero =>
    intro i fu fu' s hi h1 h2
    obtain ⟨fu, rfl, -⟩ := z_fuS h1
    obtain ⟨fu', rfl, -⟩ := z_fuS h2
    refine ⟨s, ?_, ?_⟩
    · simp only [k_Co_numberOf_4, k_Ta_used, Option.bind_some, ht.1]
      rw [if_neg (nI_nlt (by omega) (by omega))]
    · simp only [k_Mo_fighterMore_85, hm.1]
      rw [if_neg (nI_nlt (by omega) (by omega))]
  | succ d ih =>
    intro i fu fu' s hi h1 h2
    obtain ⟨fu, rfl, h1'⟩ := z_fuS h1
    obtain ⟨fu', rfl, h2'⟩ := z_fuS h2
    have hi' : i < L.length := by omega
    have C := fun q hq => zct_get (q := q) ht hL hi' hq
    have P := fun q hq => zmt_part (q := q) hm hr hi' hq
    have hlt : nI i < nI L.length := nI_lt hi' (by omega)
    simp only [k_Co_numberOf_4, k_Mo_fighterMore_85, k_Ta_used, Option.bind_some, ht.1, hm.1, z_0, z_1, if_pos hlt, C 1 (by omega), P 1 (by omega), nI_1, nI_add, zadd0]
    by_cases a1 : nI (zli L i 1) = x <;> simp only [a1, ↓reduceIte] <;> exact ih _ _ _ _ (by omega) (by omega) (by omega)
theorem r_numberOf {j t : zsT} {p : Nat → Int32} {L : List zCd} {F : Nat} {m : zsM} (x y : Int32) (ht : zCT t L) (hm : zMT (m.1 16) (m.2 15) L) (hr : zLR F L) : ∃ v, k_Co_numberOf (j, t, p) x = some v ∧ k_Mo_fighterMore_85 m x y zFu 0 0 = some v :=
  r_numberOf_lp ht hm hr L.length 0 zFu zFu 0 (by omega) (z_fu (by have := hr.2.1; omega)) (z_fu (by have := hr.2.1; omega))
def zKy (L : List zCd) : Prop := ∀ i k, i < L.length → k < L.length → zky (zli L i) = zky (zli L k) → i = k
theorem r_find_lp {j t : zsT} {p : Nat → Int32} {L : List zCd} {F : Nat} {x y z : Int32} (ht : zCT t L) (hr : zLR F L) : ∀ (d i fu : Nat), i + d = L.length → d < fu → (∃ r, i ≤ r ∧ r < L.length ∧ k_Co_find_3 (j, t, p) x y z fu (nI i) = some (nI r) ∧ nI (zli L r 0) = x ∧ nI (zli L r 1) = y ∧ nI (zli L r 2) = z ∧ ∀ k, i ≤ k → k < r → ¬ (nI (zli L k 0) = x ∧ nI (zli L k 1) = y ∧ nI (zli L k 2) = z)) ∨ (k_Co_find_3 (j, t, p) x y z fu (nI i) = some (-1) ∧ ∀ k, i ≤ k → k < L.length → ¬ (nI (zli L k 0) = x ∧ nI (zli L k 1) = y ∧ nI (zli L k 2) = z)) := by
  have hL := hr.2.1
  intro d
  induction d with
  | zero =>
    intro i fu hi h1
    obtain ⟨fu, rfl, -⟩ := z_fuS h1
    refine Or.inr ⟨?_, fun k h1 h2 => by omega⟩
    simp only [k_Co_find_3, k_Ta_used, Option.bind_some, ht.1]
    rw [if_neg (nI_nlt (by omega) (by omega))]
  | succ d ih =>
    intro i fu hi h1
    obtain ⟨fu, rfl, h1'⟩ := z_fuS h1
    have hi' : i < L.length := by omega
    have C := fun q hq => zct_get (q := q) ht hL hi' hq
    have hlt : nI i < nI L.length := nI_lt hi' (by omega)
    by_cases a : nI (zli L i 0) = x ∧ nI (zli L i 1) = y ∧ nI (zli L i 2) = z
    · refine Or.inl ⟨i, Nat.le_refl _, hi', ?_, a.1, a.2.1, a.2.2, fun k h1 h2 => by omega⟩
      simp only [k_Co_find_3, k_Ta_used, Option.bind_some, ht.1, z_0, z_1, z_2, if_pos hlt, C 0 (by omega), C 1 (by omega), C 2 (by omega), a.1, a.2.1, a.2.2, ↓reduceIte]
    · have e : k_Co_find_3 (j, t, p) x y z (fu + 1) (nI i) = k_Co_find_3 (j, t, p) x y z fu (nI (i + 1)) := by
        simp only [k_Co_find_3, k_Ta_used, Option.bind_some, ht.1, z_0, z_1, z_2, if_pos hlt, C 0 (by omega), C 1 (by omega), C 2 (by omega), nI_add]
        by_cases b0 : nI (zli L i 0) = x
        · by_cases b1 : nI (zli L i 1) = y
          · by_cases b2 : nI (zli L i 2) = z
            · exact absurd ⟨b0, b1, b2⟩ a
            · rw [if_pos b0, if_pos b1, if_neg b2]
          · rw [if_pos b0, if_neg b1]
        · rw [if_neg b0]
      rcases ih (i + 1) fu (by omega) (by omega) with ⟨r, h3, h4, h5, h6, h7, h8, h9⟩ | ⟨h3, h4⟩
      · refine Or.inl ⟨r, by omega, h4, e.trans h5, h6, h7, h8, fun k g1 g2 => ?_⟩
        by_cases hk : k = i
        · subst hk; exact a
        · exact h9 k (by omega) g2
      · refine Or.inr ⟨e.trans h3, fun k g1 g2 => ?_⟩
        by_cases hk : k = i
        · subst hk; exact a
        · exact h4 k (by omega) g2
theorem r_find {j t : zsT} {p : Nat → Int32} {L : List zCd} {F : Nat} (x y z : Int32) (ht : zCT t L) (hr : zLR F L) : (∃ r, r < L.length ∧ k_Co_find (j, t, p) x y z = some (nI r) ∧ nI (zli L r 0) = x ∧ nI (zli L r 1) = y ∧ nI (zli L r 2) = z ∧ ∀ k, k < r → ¬ (nI (zli L k 0) = x ∧ nI (zli L k 1) = y ∧ nI (zli L k 2) = z)) ∨ (k_Co_find (j, t, p) x y z = some (-1) ∧ ∀ k, k < L.length → ¬ (nI (zli L k 0) = x ∧ nI (zli L k 1) = y ∧ nI (zli L k 2) = z)) := by
  rcases r_find_lp (j := j) (p := p) (x := x) (y := y) (z := z) ht hr L.length 0 zFu (by omega) (z_fu (by have := hr.2.1; omega)) with ⟨r, h3, h4, h5, h6, h7, h8, h9⟩ | ⟨h3, h4⟩
  · exact Or.inl ⟨r, h4, h5, h6, h7, h8, fun k hk => h9 k (by omega) hk⟩
  · exact Or.inr ⟨h3, fun k hk => h4 k (by omega) hk⟩
theorem r_poisonBy_lp {L : List zCd} {F : Nat} {m : zsM} {y z : Int32} (hm : zMT (m.1 16) (m.2 15) L) (hr : zLR F L) : ∀ (d i fu : Nat), i + d = L.length → d < fu → (∀ r, i ≤ r → r < L.length → nI (zli L r 0) = 0 ∧ nI (zli L r 1) = y ∧ nI (zli L r 2) = z → (∀ k, i ≤ k → k < r → ¬ (nI (zli L k 0) = 0 ∧ nI (zli L k 1) = y ∧ nI (zli L k 2) = z)) → k_Mo_poisonBy_2 m y z fu (nI i) = some (nI (zli L r 3))) ∧ ((∀ k, i ≤ k → k < L.length → ¬ (nI (zli L k 0) = 0 ∧ nI (zli L k 1) = y ∧ nI (zli L k 2) = z)) → k_Mo_poisonBy_2 m y z fu (nI i) = some 0) := by
  have hL := hr.2.1
  intro d
  induction d with
  | zero =>
    intro i fu hi h1
    obtain ⟨fu, rfl, -⟩ := z_fuS h1
    refine ⟨fun r h1 h2 => by omega, fun _ => ?_⟩
    simp only [k_Mo_poisonBy_2, hm.1]
    rw [if_neg (nI_nlt (by omega) (by omega))]
  | succ d ih =>
    intro i fu hi h1
    obtain ⟨fu, rfl, h1'⟩ := z_fuS h1
    have hi' : i < L.length := by omega
    have P := fun q hq => zmt_part (q := q) hm hr hi' hq
    have hlt : nI i < nI L.length := nI_lt hi' (by omega)
    obtain ⟨ih1, ih2⟩ := ih (i + 1) fu (by omega) (by omega)
    by_cases a : nI (zli L i 0) = 0 ∧ nI (zli L i 1) = y ∧ nI (zli L i 2) = z
    · have e : k_Mo_poisonBy_2 m y z (fu + 1) (nI i) = some (nI (zli L i 3)) := by
        simp only [k_Mo_poisonBy_2, hm.1, if_pos hlt, show (1 : Int32) = nI 1 from rfl, show (2 : Int32) = nI 2 from rfl, show (3 : Int32) = nI 3 from rfl]
        rw [show (0 : Int32) = nI 0 from rfl] at a ⊢
        simp only [P 0 (by omega), P 1 (by omega), P 2 (by omega), P 3 (by omega), Option.bind_some, a.1, a.2.1, a.2.2, ↓reduceIte]
      refine ⟨fun r h2 h3 h4 h5 => ?_, fun h => absurd a (h i (Nat.le_refl _) hi')⟩
      by_cases hri : r = i
      · subst hri; exact e
      · exact absurd a (h5 i (Nat.le_refl _) (by omega))
    · have e : k_Mo_poisonBy_2 m y z (fu + 1) (nI i) = k_Mo_poisonBy_2 m y z fu (nI (i + 1)) := by
        simp only [k_Mo_poisonBy_2, hm.1, if_pos hlt, z_0, z_1, z_2, P 0 (by omega), P 1 (by omega), P 2 (by omega), Option.bind_some, nI_add]
        by_cases b0 : nI (zli L i 0) = nI 0
        · by_cases b1 : nI (zli L i 1) = y
          · by_cases b2 : nI (zli L i 2) = z
            · exact absurd ⟨b0, b1, b2⟩ a
            · rw [if_pos b0, if_pos b1, if_neg b2]
          · rw [if_pos b0, if_neg b1]
        · rw [if_neg b0]
      refine ⟨fun r h2 h3 h4 h5 => e.trans (ih1 r ?_ h3 h4 fun k g1 g2 => h5 k (by omega) g2), fun h => e.trans (ih2 fun k g1 g2 => h k (by omega) g2)⟩
      by_cases hri : r = i
      · subst hri; exact absurd h4 a
      · omega
theorem r_poisonBy {j t : zsT} {p : Nat → Int32} {L : List zCd} {F i : Nat} {m : zsM} {y : Int32} (ht : zCT t L) (hm : zMT (m.1 16) (m.2 15) L) (hr : zLR F L) (hi : i < 8) : ∃ v, v < 10 ∧ k_Co_poisonBy (j, t, p) (nI i) y = some (nI v) ∧ k_Mo_poisonBy m y (p i) = some (nI v) := by
  have hL := hr.2.1
  obtain ⟨h1, h2⟩ := r_poisonBy_lp (y := y) (z := p i) hm hr L.length 0 zFu (by omega) (z_fu (by omega))
  have e : k_Co_poisonBy (j, t, p) (nI i) y = (k_Co_find (j, t, p) 0 y (p i)).bind fun o3 => (k_Ta_get 6 2304 t o3 3).bind fun o4 => some o4 := by
    unfold k_Co_poisonBy
    rw [if_neg (nI_pos (by omega)), z_8, if_pos (nI_lt hi (by omega))]
    unfold k_Co_poisonBy_18
    rw [if_neg (by decide), if_neg (zo_in hi (by omega)), nI_clamp (by omega)]
  rcases r_find (j := j) (p := p) 0 y (p i) ht hr with ⟨r, h4, h5, h6, h7, h8, h9⟩ | ⟨h3, h4⟩
  · refine ⟨zli L r 3, (hr.2.2 r h4).2.2.2.1, ?_, h1 r (by omega) h4 ⟨h6, h7, h8⟩ fun k _ hk => h9 k hk⟩
    rw [e, h5, Option.bind_some, z_3, zct_get ht hL h4 (by omega)]
    rfl
  · refine ⟨0, by omega, ?_, h2 fun k _ hk => h4 k hk⟩
    rw [e, h3, Option.bind_some, ta_getm]
    rfl
