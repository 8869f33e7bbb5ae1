def zPo (f : Nat) (c : zCd) : Bool := decide (c 0 = 0 ∧ c 1 = f)
theorem r_list_lp {F f : Nat} {j t : zsT} {L : List zCd} (ht : zCT t L) (hr : zLR F L) (hf : f < 8) : ∀ (R K : List zCd) (q fu fu' : Nat) (p : Nat → Int32) (m : zsM), L = K ++ R → R.length < fu → R.length < fu' → zMT (m.1 16) (m.2 15) L → q + (R.filter (zPo f)).length ≤ 8 → (∀ k, k < q → p k = m.2 30 k) → ∃ q' p' a, k_Co_listPoisoners_4 (nI f) fu (nI q) (nI K.length) (j, t, p) = some (nI q', (j, t, p')) ∧ k_Mo_beginsTurn_46 fu' (nI f) (nI q) (nI K.length) m = k_Mo_beginsTurn_99 zFu (nI f) (nI q') 0 (m.1, a) ∧ (∀ x, x ≠ 30 → a x = m.2 x) ∧ q' ≤ 8 ∧ ∀ k, k < q' → p' k = a 30 k := by
  have hL := hr.2.1
  have hF := hr.1
  intro R
  induction R with
  | nil =>
    intro K q fu fu' p m hK h1 h2 hm hq hp
    obtain ⟨fu, rfl, -⟩ := z_fuS h1
    obtain ⟨fu', rfl, -⟩ := z_fuS h2
    rw [List.append_nil] at hK
    subst hK
    refine ⟨q, p, m.2, ?_, ?_, fun _ _ => rfl, by simpa using hq, hp⟩
    · simp only [k_Co_listPoisoners_4, k_Ta_used, Option.bind_some, ht.1]
      rw [if_neg (nI_nlt (by omega) (by omega))]
    · simp only [k_Mo_beginsTurn_46, hm.1]
      rw [if_neg (nI_nlt (by omega) (by omega))]
  | cons c R ih =>
    intro K q fu fu' p m hK h1 h2 hm hq hp
    obtain ⟨fu, rfl, h1'⟩ := z_fuS h1
    obtain ⟨fu', rfl, h2'⟩ := z_fuS h2
    rw [List.length_cons] at h1' h2'
    have hlen : L.length = K.length + R.length + 1 := by rw [hK]; simp; omega
    have hi : K.length < L.length := by omega
    have hz : zli L K.length = c := by rw [hK, zli_mid]
    have hK2 : L = (K ++ [c]) ++ R := by rw [hK]; simp
    have hKl : (K ++ [c]).length = K.length + 1 := by simp
    have C := fun x hx => zct_get (q := x) ht hL hi hx
    have P := fun x hx => zmt_part (q := x) hm hr hi hx
    obtain ⟨c0, c1, c2, c3, c4, c5⟩ := hr.2.2 _ hi
    rw [hz] at C P c0 c1 c2
    have hlt : nI K.length < nI L.length := nI_lt hi (by omega)
    by_cases a : c 0 = 0 ∧ c 1 = f
    · have hpp : zPo f c = true := by simp [zPo, a.1, a.2]
      rw [List.filter_cons, if_pos hpp, List.length_cons] at hq
      obtain ⟨q', p', a', e1, e2, e3, e4, e5⟩ := ih (K ++ [c]) (q + 1) fu fu' (upd p q (nI (c 2))) (m.1, va_up m.2 30 (upd (m.2 30) q (nI (c 2)))) hK2 (by omega) (by omega) (by
        dsimp only
        rw [zup_n (by decide)]
        exact hm) (by omega) (fun k hk => by
        dsimp only
        rw [zup_s]
        by_cases hkq : k = q
        · subst hkq
          rw [zu_s, zu_s]
        · rw [zu_n hkq, zu_n hkq, hp k (by omega)])
      rw [hKl] at e1 e2
      refine ⟨q', p', a', ?_, ?_, fun x hx => (e3 x hx).trans (zup_n hx), e4, e5⟩
      · rw [← e1]
        simp only [k_Co_listPoisoners_4, k_Co_listPoisoners_45, k_Ta_used, Option.bind_some, ht.1, if_pos hlt, z_0, z_1, z_2, z_8, C 0 (by omega), C 1 (by omega), C 2 (by omega), a.1, a.2, ↓reduceIte, nI_add, if_pos (nI_lt (show q < 8 by omega) (show 8 < 2 ^ 31 by omega)), if_neg (zo_in (show q < 8 by omega) (show 8 < 2 ^ 31 by omega)), nI_clamp (show q < 2 ^ 31 by omega)]
        rw [if_neg (by decide)]
      · rw [← e2]
        simp only [k_Mo_beginsTurn_46, hm.1, if_pos hlt, z_0, z_1, z_2, P 0 (by omega), P 1 (by omega), P 2 (by omega), Option.bind_some, a.1, a.2, ↓reduceIte, nI_add, if_neg (zo_in (show q < 8 by omega) (show 8 < 2 ^ 31 by omega)), nI_clamp (show q < 2 ^ 31 by omega)]
    · have hpp : ¬ zPo f c = true := by simpa [zPo] using a
      rw [List.filter_cons, if_neg hpp] at hq
      obtain ⟨q', p', a', e1, e2, e3⟩ := ih (K ++ [c]) q fu fu' p m hK2 (by omega) (by omega) hm hq hp
      rw [hKl] at e1 e2
      refine ⟨q', p', a', ?_, ?_, e3⟩
      · rw [← e1]
        simp only [k_Co_listPoisoners_4, k_Co_listPoisoners_45, k_Ta_used, Option.bind_some, ht.1, if_pos hlt, z_0, z_1, z_2, C 0 (by omega), C 1 (by omega), nI_eq (show c 0 < 2 ^ 31 by omega) (show 0 < 2 ^ 31 by omega), nI_eq (show c 1 < 2 ^ 31 by omega) (show f < 2 ^ 31 by omega), nI_add, ↓reduceIte]
        by_cases b0 : c 0 = 0
        · rw [if_pos b0, if_neg fun b1 => a ⟨b0, b1⟩]
        · rw [if_neg b0]
      · rw [← e2]
        simp only [k_Mo_beginsTurn_46, hm.1, if_pos hlt, z_0, z_1, z_2, P 0 (by omega), P 1 (by omega), Option.bind_some, nI_eq (show c 0 < 2 ^ 31 by omega) (show 0 < 2 ^ 31 by omega), nI_eq (show c 1 < 2 ^ 31 by omega) (show f < 2 ^ 31 by omega), nI_add]
        by_cases b0 : c 0 = 0
        · rw [if_pos b0, if_neg fun b1 => a ⟨b0, b1⟩]
        · rw [if_neg b0]
theorem zPo_le {F f : Nat} {L : List zCd} (h : zGd F L) : (L.filter (zPo f)).length ≤ 8 := by
  have g := zpig 8 ((L.filter (zPo f)).map fun c => c 2) (List.pairwise_map.2 (List.Pairwise.imp_of_mem (fun {a b} ha hb hab => ?_) (h.2.2.2.filter _))) (fun x hx => by
    obtain ⟨c, g1, rfl⟩ := List.mem_map.1 hx
    have g2 := (h.2.2.1 c (List.mem_filter.1 g1).1).1.2.2.1
    have := h.1
    omega)
  · rwa [List.length_map] at g
  · obtain ⟨-, g1⟩ := List.mem_filter.1 ha
    obtain ⟨-, g2⟩ := List.mem_filter.1 hb
    have g1' : a 0 = 0 ∧ a 1 = f := by simpa [zPo] using g1
    have g2' : b 0 = 0 ∧ b 1 = f := by simpa [zPo] using g2
    intro e
    apply hab
    unfold zky
    rw [g1'.1, g1'.2, g2'.1, g2'.2, e]
theorem r_list {F f : Nat} {j t : zsT} {p : Nat → Int32} {m : zsM} (hc : zRC F t (m.1 16) (m.2 15)) (hf : f < 8) : ∃ q' p' a, k_Co_listPoisoners (j, t, p) (nI f) = some (nI q', (j, t, p')) ∧ k_Mo_beginsTurn_46 zFu (nI f) 0 0 m = k_Mo_beginsTurn_99 zFu (nI f) (nI q') 0 (m.1, a) ∧ (∀ x, x ≠ 30 → a x = m.2 x) ∧ q' ≤ 8 ∧ ∀ k, k < q' → p' k = a 30 k := by
  obtain ⟨L, ht, hm, hg⟩ := hc
  exact r_list_lp ht (zGd_lr hg) hf L [] 0 zFu zFu p m rfl (z_fu (by have := hg.2.1; omega)) (z_fu (by have := hg.2.1; omega)) hm (by rw [Nat.zero_add]; exact zPo_le hg) (fun k hk => by omega)
