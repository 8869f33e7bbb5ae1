theorem zbs {α : Type} (x : Option α) : (x.bind fun o => some o) = x := by cases x <;> rfl
theorem r_endAll {F b f : Nat} {j t : zsT} {p : Nat → Int32} {m : zsM} (l2 l3 l4 : Int32) (h : zRJ b j (m.1 14) (m.2 13)) (hb : b + 384 < 2 ^ 27) (hc : zRC F t (m.1 16) (m.2 15)) (hf : f < 8) (hd : m.2 4 f = 0) : ∃ j' t' m', k_Co_endAllOf (j, t, p) (nI f) = some (j', t', p) ∧ k_Mo_harms_112 (nI f) l2 l3 zFu l4 0 m = some (l4, m') ∧ zFrC m m' ∧ zRJ (b + 384) j' (m'.1 14) (m'.2 13) ∧ zRC F t' (m'.1 16) (m'.2 15) := by
  refine r_mend h hb hc (k_Co_endAllOf_2 (nI f)) (fun fu x m => k_Mo_harms_112 (nI f) l2 l3 fu l4 x m) (fun m => some (l4, m)) (fun c => decide (c 1 = f)) ?_ ?_ ?_ ?_
  · intro fu j t p n ht
    simp only [k_Co_endAllOf_2, k_Ta_used, Option.bind_some, ht, zbs]
    rw [if_neg (by simp)]
  · intro fu i n j t p c hn hi ht hcr hg hs
    obtain ⟨t, tn⟩ := t
    obtain rfl : tn = nI n := ht
    simp only [k_Co_endAllOf_2, k_Ta_used, Option.bind_some, if_pos (nI_lt hi (show n < 2 ^ 31 by omega)), z_1, z_5, z_0, hg 1 (by omega), hs, nI_add, nI_eq (show c 1 < 2 ^ 31 by have := hcr.2.1; have := hc; obtain ⟨L, -, -, g⟩ := hc; have := g.1; omega) (show f < 2 ^ 31 by omega), decide_eq_true_eq]
    split <;> rfl
  · intro fu m' n hn hf' hm
    simp only [k_Mo_harms_112, hm]
    rw [if_neg (by simp)]
  · intro fu i m' c hi hf' hlt hcr hP
    have hd' : k_Mo_isDown m' (nI f) = some 1 := by
      unfold k_Mo_isDown
      rw [if_neg (zo_in hf (by omega)), nI_clamp (by omega), hf'.2 4 (by decide) (by decide), hd, if_pos rfl]
    simp only [k_Mo_harms_112, if_pos hlt, z_1, hP 1 (by omega), Option.bind_some, nI_eq (show c 1 < 2 ^ 31 by obtain ⟨L, -, -, g⟩ := hc; have := g.1; have := hcr.2.1; omega) (show f < 2 ^ 31 by omega), hd', decide_eq_true_eq, k_Mo_harms_162, nI_add]
    split
    · rw [if_neg (by decide)]
    · rfl
theorem r_endHarmed {F b f : Nat} {j t : zsT} {p : Nat → Int32} {m : zsM} (l2 l3 l4 : Int32) (h : zRJ b j (m.1 14) (m.2 13)) (hb : b + 384 < 2 ^ 27) (hc : zRC F t (m.1 16) (m.2 15)) (hf : f < 8) (hd : m.2 4 f ≠ 0) : ∃ j' t' m', k_Co_endHarmedOf (j, t, p) (nI f) = some (j', t', p) ∧ k_Mo_harms_112 (nI f) l2 l3 zFu l4 0 m = some (l4, m') ∧ zFrC m m' ∧ zRJ (b + 384) j' (m'.1 14) (m'.2 13) ∧ zRC F t' (m'.1 16) (m'.2 15) := by
  have hF : F ≤ 8 := by obtain ⟨L, -, -, g⟩ := hc; exact g.1
  refine r_mend h hb hc (k_Co_endHarmedOf_2 (nI f)) (fun fu x m => k_Mo_harms_112 (nI f) l2 l3 fu l4 x m) (fun m => some (l4, m)) (fun c => decide (c 1 = f ∧ (c 4 = 2 ∨ c 0 = 5))) ?_ ?_ ?_ ?_
  · intro fu j t p n ht
    simp only [k_Co_endHarmedOf_2, k_Ta_used, Option.bind_some, ht, zbs]
    rw [if_neg (by simp)]
  · intro fu i n j t p c hn hi ht hcr hg hs
    obtain ⟨t, tn⟩ := t
    obtain rfl : tn = nI n := ht
    obtain ⟨c0, c1, c2, c3, c4, c5⟩ := hcr
    simp only [k_Co_endHarmedOf_2, k_Co_endHarmedOf_44, k_Ta_used, Option.bind_some, if_pos (nI_lt hi (show n < 2 ^ 31 by omega)), z_1, z_2, z_4, z_5, z_0, hg 0 (by omega), hg 1 (by omega), hg 4 (by omega), hs, nI_add, nI_eq (show c 0 < 2 ^ 31 by omega) (show 5 < 2 ^ 31 by omega), nI_eq (show c 1 < 2 ^ 31 by omega) (show f < 2 ^ 31 by omega), nI_eq (show c 4 < 2 ^ 31 by omega) (show 2 < 2 ^ 31 by omega), decide_eq_true_eq, nI_eq (show 1 < 2 ^ 31 by omega) (show 0 < 2 ^ 31 by omega), ↓reduceIte, Nat.one_ne_zero]
    by_cases a1 : c 1 = f <;> by_cases a4 : c 4 = 2 <;> by_cases a0 : c 0 = 5 <;> simp [a1, a4, a0]
  · intro fu m' n hn hf' hm
    simp only [k_Mo_harms_112, hm]
    rw [if_neg (by simp)]
  · intro fu i m' c hi hf' hlt hcr hP
    obtain ⟨c0, c1, c2, c3, c4, c5⟩ := hcr
    have hd' : k_Mo_isDown m' (nI f) = some 0 := by
      unfold k_Mo_isDown
      rw [if_neg (zo_in hf (by omega)), nI_clamp (by omega), hf'.2 4 (by decide) (by decide), if_neg hd]
    simp only [k_Mo_harms_112, if_pos hlt, z_1, z_2, z_4, z_5, z_0, hP 0 (by omega), hP 1 (by omega), hP 4 (by omega), Option.bind_some, nI_eq (show c 1 < 2 ^ 31 by omega) (show f < 2 ^ 31 by omega), nI_eq (show c 0 < 2 ^ 31 by omega) (show 5 < 2 ^ 31 by omega), nI_eq (show c 4 < 2 ^ 31 by omega) (show 2 < 2 ^ 31 by omega), hd', decide_eq_true_eq, k_Mo_harms_162, nI_add, ↓reduceIte]
    by_cases a1 : c 1 = f <;> by_cases a4 : c 4 = 2 <;> by_cases a0 : c 0 = 5 <;> simp [a1, a4, a0]
theorem r_endEnc {F b : Nat} {j t : zsT} {p : Nat → Int32} {m : zsM} (l1 : Int32) (h : zRJ b j (m.1 14) (m.2 13)) (hb : b + 384 < 2 ^ 27) (hc : zRC F t (m.1 16) (m.2 15)) : ∃ j' t' m', k_Co_endOfEncounter (j, t, p) = some (j', t', p) ∧ k_Mo_finish_24 zFu l1 0 m = k_Mo_finish_86 zFu l1 0 (upd (upd (upd (upd (upd (upd m'.1 19 0) 20 0) 21 0) 22 0) 23 0) 24 0, m'.2) ∧ zFrC m m' ∧ zRJ (b + 384) j' (m'.1 14) (m'.2 13) ∧ zRC F t' (m'.1 16) (m'.2 15) := by
  have hF : F ≤ 8 := by obtain ⟨L, -, -, g⟩ := hc; exact g.1
  refine r_mend h hb hc k_Co_endOfEncounter_2 (fun fu x m => k_Mo_finish_24 fu l1 x m) (fun m' => k_Mo_finish_86 zFu l1 0 (upd (upd (upd (upd (upd (upd m'.1 19 0) 20 0) 21 0) 22 0) 23 0) 24 0, m'.2)) (fun c => decide (c 4 < 2)) ?_ ?_ ?_ ?_
  · intro fu j t p n ht
    simp only [k_Co_endOfEncounter_2, k_Ta_used, Option.bind_some, ht, zbs]
    rw [if_neg (by simp)]
  · intro fu i n j t p c hn hi ht hcr hg hs
    obtain ⟨t, tn⟩ := t
    obtain rfl : tn = nI n := ht
    obtain ⟨c0, c1, c2, c3, c4, c5⟩ := hcr
    simp only [k_Co_endOfEncounter_2, k_Co_endOfEncounter_38, k_Ta_used, Option.bind_some, if_pos (nI_lt hi (show n < 2 ^ 31 by omega)), z_1, z_4, z_5, z_0, hg 4 (by omega), hs, nI_add, nI_eq (show c 4 < 2 ^ 31 by omega) (show 0 < 2 ^ 31 by omega), nI_eq (show c 4 < 2 ^ 31 by omega) (show 1 < 2 ^ 31 by omega), decide_eq_true_eq]
    by_cases a0 : c 4 = 0
    · rw [if_pos a0, if_pos (by omega)]
    · rw [if_neg a0]
      by_cases a1 : c 4 = 1
      · rw [if_pos a1, if_pos (by omega)]
      · rw [if_neg a1, if_neg (by omega)]
  · intro fu m' n hn hf' hm
    simp only [k_Mo_finish_24, hm]
    rw [if_neg (by simp)]
  · intro fu i m' c hi hf' hlt hcr hP
    obtain ⟨c0, c1, c2, c3, c4, c5⟩ := hcr
    simp only [k_Mo_finish_24, if_pos hlt, z_1, z_2, z_4, hP 4 (by omega), Option.bind_some, nI_ltI (show c 4 < 2 ^ 31 by omega) (show 2 < 2 ^ 31 by omega), decide_eq_true_eq, nI_add]
theorem r_endWith {F b : Nat} {j t : zsT} {p : Nat → Int32} {m : zsM} (l2 : Int32) (h : zRJ b j (m.1 14) (m.2 13)) (hb : b + 384 < 2 ^ 27) (hc : zRC F t (m.1 16) (m.2 15)) : ∃ j' t' m', k_Co_endWith (j, t, p) 3 = some (j', t', p) ∧ k_Mo_rest_152 1 zFu l2 0 m = some (l2, m') ∧ zFrC m m' ∧ zRJ (b + 384) j' (m'.1 14) (m'.2 13) ∧ zRC F t' (m'.1 16) (m'.2 15) := by
  have hF : F ≤ 8 := by obtain ⟨L, -, -, g⟩ := hc; exact g.1
  refine r_mend h hb hc (k_Co_endWith_2 3) (fun fu x m => k_Mo_rest_152 1 fu l2 x m) (fun m => some (l2, m)) (fun c => decide (c 4 = 3)) ?_ ?_ ?_ ?_
  · intro fu j t p n ht
    simp only [k_Co_endWith_2, k_Ta_used, Option.bind_some, ht, zbs]
    rw [if_neg (by simp)]
  · intro fu i n j t p c hn hi ht hcr hg hs
    obtain ⟨t, tn⟩ := t
    obtain rfl : tn = nI n := ht
    obtain ⟨c0, c1, c2, c3, c4, c5⟩ := hcr
    simp only [k_Co_endWith_2, k_Ta_used, Option.bind_some, if_pos (nI_lt hi (show n < 2 ^ 31 by omega)), z_1, z_3, z_4, z_5, z_0, hg 4 (by omega), hs, nI_add, nI_eq (show c 4 < 2 ^ 31 by omega) (show 3 < 2 ^ 31 by omega), decide_eq_true_eq]
    split <;> rfl
  · intro fu m' n hn hf' hm
    simp only [k_Mo_rest_152, hm]
    rw [if_neg (by simp)]
  · intro fu i m' c hi hf' hlt hcr hP
    obtain ⟨c0, c1, c2, c3, c4, c5⟩ := hcr
    simp only [k_Mo_rest_152, if_pos hlt, z_1, z_3, z_4, hP 4 (by omega), Option.bind_some, nI_eq (show c 4 < 2 ^ 31 by omega) (show 3 < 2 ^ 31 by omega), decide_eq_true_eq, nI_add, ↓reduceIte]
theorem r_endNone {m : zsM} {n : Nat} (l2 : Int32) (hn : n ≤ 384) (hm : m.1 16 = nI n) : ∀ (d i fu : Nat), i + d = n → d < fu → k_Mo_rest_152 0 fu l2 (nI i) m = some (l2, m) := by
  intro d
  induction d with
  | zero =>
    intro i fu hi hf
    obtain ⟨fu, rfl, -⟩ := z_fuS hf
    simp only [k_Mo_rest_152, hm]
    rw [if_neg (nI_nlt (by omega) (by omega))]
  | succ d ih =>
    intro i fu hi hf
    obtain ⟨fu, rfl, hf'⟩ := z_fuS hf
    simp only [k_Mo_rest_152, hm]
    rw [if_pos (nI_lt (by omega) (by omega)), if_neg (by decide), nI_1]
    exact ih (i + 1) fu (by omega) (by omega)
